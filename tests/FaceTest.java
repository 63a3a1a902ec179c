import java.lang.reflect.Constructor;
import java.lang.reflect.Executable;
import java.lang.reflect.Field;
import java.lang.reflect.Method;
import java.lang.reflect.Modifier;
import java.nio.file.Files;
import java.nio.file.Path;
import java.util.Set;
import java.util.StringJoiner;
import java.util.TreeSet;
import java.util.regex.Matcher;
import java.util.regex.Pattern;

/** The class shows what the document's "The public face" shows, type by type, and nothing else. */
public final class FaceTest {
    private static final Pattern FACE = Pattern.compile("## The public face\\s+```java\\n(.*?)\\{\\n(.*?)\\}\\n```",
            Pattern.DOTALL);

    public static void main(String[] args) throws Exception {
        Check check = new Check();
        Matcher face = FACE.matcher(Files.readString(Path.of("../shared/DOC.md")));
        check.due("the document has a face", face.find() ? 1 : 0, 1);
        Set<String> told = new TreeSet<>(Set.of(face.group(1).trim()));
        for (String line : face.group(2).split(";\\s*")) {
            tells(line.trim(), told);
        }
        Set<String> shown = shown();
        for (String member : told) {
            check.due("does the class show, as the document tells: " + member, shown.contains(member) ? 1 : 0, 1);
        }
        for (String member : shown) {
            check.due("does the document tell, as the class shows: " + member, told.contains(member) ? 1 : 0, 1);
        }
        check.due("of the class, 5 constants, the constructor, 31 calls", told.size(), 38);
        check.end();
    }

    /** A line of the face without its names of arguments; a line of constants becomes one each. */
    private static void tells(String line, Set<String> told) {
        int from = line.indexOf('(');
        if (from < 0) {
            Matcher constants = Pattern.compile("(public static final \\w+ )(.*)").matcher(line);
            if (constants.matches()) {
                for (String constant : constants.group(2).split(", ")) {
                    told.add(constants.group(1) + constant.replace("Long.MIN_VALUE", "" + Long.MIN_VALUE));
                }
            }
            return;
        }
        told.add(line.substring(0, from) + line.substring(from).replaceAll("(\\w+) \\w+", "$1"));
    }

    private static Set<String> shown() throws IllegalAccessException {
        Set<String> shown = new TreeSet<>();
        shown.add(Modifier.toString(RefusedTwice.class.getModifiers()) + " class RefusedTwice");
        for (Field f : RefusedTwice.class.getDeclaredFields()) {
            if (!Modifier.isPrivate(f.getModifiers())) {
                shown.add(Modifier.toString(f.getModifiers()) + " " + f.getType().getSimpleName() + " " + f.getName()
                        + " = " + (Modifier.isStatic(f.getModifiers()) ? f.get(null) : "of an object"));
            }
        }
        for (Constructor<?> c : RefusedTwice.class.getDeclaredConstructors()) {
            shows(c, "RefusedTwice", shown);
        }
        for (Method m : RefusedTwice.class.getDeclaredMethods()) {
            shows(m, m.getReturnType().getSimpleName() + " " + m.getName(), shown);
        }
        return shown;
    }

    private static void shows(Executable call, String typeAndName, Set<String> shown) {
        if (Modifier.isPrivate(call.getModifiers())) {
            return;
        }
        StringJoiner types = new StringJoiner(", ", "(", ")");
        for (Class<?> type : call.getParameterTypes()) {
            types.add(type.getSimpleName());
        }
        shown.add(Modifier.toString(call.getModifiers()) + " " + typeAndName + types);
    }
}
