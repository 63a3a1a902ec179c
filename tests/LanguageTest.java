import java.lang.reflect.Constructor;
import java.lang.reflect.Field;
import java.lang.reflect.Method;
import java.lang.reflect.Modifier;
import java.nio.file.Files;
import java.nio.file.Path;
import java.util.ArrayList;
import java.util.HashSet;
import java.util.List;
import java.util.Set;
import java.util.TreeSet;
import java.util.regex.Matcher;
import java.util.regex.Pattern;

/** What can be seen of LANGUAGE.md from outside: the face, and the words of the source. */
public final class LanguageTest {
    private static final Check CHECK = new Check();
    private static final Path SOURCE = Path.of("src/main/java/RefusedTwice.java");
    private static final Set<String> FACE = Set.of("one", "of", "between", "counts", "refuse", "row", "feed",
            "street", "told", "pass", "match", "say", "wrong", "can", "odds", "mean", "plan", "ends", "book", "looked",
            "judge", "image", "undo", "act", "trace", "taken", "count", "tape", "item", "read", "shift");
    private static final Set<String> CALLS = Set.of("String.length", "charAt", "length", "indexOf", "max", "min",
            "bitCount", "floorDiv", "floorMod", "arraycopy", "super");
    private static final Set<String> WORDS = Set.of("throw", "throws", "try", "catch", "finally", "synchronized",
            "assert", "import", "package", "native", "volatile", "transient", "strictfp", "var", "yield", "sealed",
            "Object", "Exception", "Override", "Thread", "Random");

    public static void main(String[] args) throws Exception {
        List<Class<?>> classes = new ArrayList<>(List.of(RefusedTwice.class.getDeclaredClasses()));
        theFace();
        for (Class<?> inner : classes) {
            noPublicNameAgain(inner);
            CHECK.due(inner + " is static", isStatic(inner.getModifiers()), 1);
            CHECK.due(inner + " is not public", Modifier.isPublic(inner.getModifiers()) ? 1 : 0, 0);
            CHECK.due(inner + " holds no classes", inner.getDeclaredClasses().length, 0);
        }
        classes.add(RefusedTwice.class);
        CHECK.due("at most twelve classes", Math.max(12, classes.size()), 12);
        for (Class<?> c : classes) {
            fields(c);
        }
        words(withoutCommentsAndTexts(Files.readString(SOURCE)), classes);
        CHECK.end();
    }

    private static int isStatic(int modifiers) {
        return Modifier.isStatic(modifiers) ? 1 : 0;
    }

    private static void theFace() {
        Set<String> names = new TreeSet<>();
        for (Method m : RefusedTwice.class.getDeclaredMethods()) {
            if (Modifier.isPublic(m.getModifiers())) {
                CHECK.due(m + " is once in the face", names.add(m.getName()) ? 1 : 0, 1);
            } else {
                CHECK.due(m + " is private", Modifier.isPrivate(m.getModifiers()) ? 1 : 0, 1);
            }
        }
        CHECK.due("the face's methods", names.equals(FACE) ? 1 : 0, 1);
        noPublicNameAgain(RefusedTwice.class);
        for (Constructor<?> c : RefusedTwice.class.getDeclaredConstructors()) {
            CHECK.due("the constructor", c.getParameterCount() + (Modifier.isPublic(c.getModifiers()) ? 0 : 1), 0);
        }
        Set<String> constants = new TreeSet<>();
        for (Field f : RefusedTwice.class.getDeclaredFields()) {
            if (!Modifier.isPrivate(f.getModifiers())) {
                constants.add(f.getName());
            }
        }
        CHECK.due("the constants", constants.equals(Set.of("NONE", "BAD", "STATE", "FULL", "NO")) ? 1 : 0, 1);
    }

    private static void noPublicNameAgain(Class<?> c) {
        for (Method m : c.getDeclaredMethods()) {
            if (!(c == RefusedTwice.class && Modifier.isPublic(m.getModifiers()))) {
                CHECK.due(m + " bears a public one's name", FACE.contains(m.getName()) ? 1 : 0, 0);
            }
            CHECK.due(m + " takes at most seven", Math.max(7, m.getParameterCount()), 7);
        }
    }

    private static void fields(Class<?> c) {
        int own = 0;
        for (Field f : c.getDeclaredFields()) {
            if (Modifier.isStatic(f.getModifiers())) {
                CHECK.due(f + " is final", Modifier.isFinal(f.getModifiers()) ? 1 : 0, 1);
            } else {
                own++;
            }
        }
        CHECK.due(c + ": some twenty fields", Math.max(20, own), 20);
    }

    /** Texts become "", signs become ' ', comments become nothing; lines stay. */
    private static String withoutCommentsAndTexts(String s) {
        Matcher m = Pattern.compile("//[^\\n]*|/\\*.*?\\*/|\"[^\"\\n]*\"|'[^'\\n]*'", Pattern.DOTALL).matcher(s);
        return m.replaceAll(r -> r.group().startsWith("\"") ? "\"\"" : r.group().startsWith("'") ? "' '"
                : r.group().replaceAll("[^\\n]", ""));
    }

    private static void words(String code, List<Class<?>> classes) {
        Set<String> methods = new HashSet<>(CALLS);
        for (Class<?> c : classes) {
            for (Method m : c.getDeclaredMethods()) {
                methods.add(m.getName());
            }
            methods.add(c.getSimpleName());
        }
        Matcher word = Pattern.compile("[A-Za-z_][A-Za-z_0-9]*").matcher(code);
        while (word.find()) {
            CHECK.due("the word " + word.group(), WORDS.contains(word.group()) ? 1 : 0, 0);
        }
        Matcher call = Pattern.compile("([A-Za-z_][A-Za-z_0-9]*)\\(").matcher(code);
        while (call.find()) {
            CHECK.due("a call of " + call.group(1), methods.contains(call.group(1)) ? 1 : 0, 1);
        }
        for (String sign : new String[] {"->", "::", "@", "\"\" +", "+ \"\"", "<>", "while (true", "for (;;"}) {
            CHECK.due("the sign " + sign, code.contains(sign) ? 1 : 0, 0);
        }
        int from = 0;
        int line = 0;
        for (String text : code.split("\n", -1)) {
            line++;
            CHECK.due("line " + line + " has at most 120 signs", Math.max(120, text.length()), 120);
            if (text.matches(" {4,8}[A-Za-z].*\\) \\{")) {
                from = line;
            }
            if (text.matches(" {4}\\}| {8}\\}")) {
                CHECK.due("the method at line " + from + " has some sixty lines", Math.max(60, line - from), 60);
                from = line;
            }
        }
        for (char sign : code.toCharArray()) {
            CHECK.due("the sign " + (int) sign, sign < 127 ? 1 : 0, 1);
        }
    }
}
