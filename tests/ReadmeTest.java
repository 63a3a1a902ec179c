import java.lang.reflect.Method;
import java.lang.reflect.Modifier;
import java.net.URL;
import java.net.URLClassLoader;
import java.nio.file.Files;
import java.nio.file.Path;
import java.util.ArrayList;
import java.util.List;
import java.util.regex.Matcher;
import java.util.regex.Pattern;

/** README.md names each call, and each line of its example whose comment begins with a number answers that number. */
public final class ReadmeTest {
    private static final Path PAGE = Path.of("README.md");
    private static final Pattern EXAMPLE = Pattern.compile("```java\\n(.*?)```", Pattern.DOTALL);
    private static final Pattern ANSWERED = Pattern.compile("(int \\w+ = )?(.*); +// (-?\\d+)\\b.*");
    private static final int FEWEST_ANSWERS = 30;

    private final List<String> calls = new ArrayList<>();
    private final List<Long> told = new ArrayList<>();

    public static void main(String[] args) throws Exception {
        Check check = new Check();
        check.isAbout("README.md: ");
        String page = Files.readString(PAGE);
        for (Method method : RefusedTwice.class.getDeclaredMethods()) {
            if (Modifier.isPublic(method.getModifiers())) {
                check.due("is " + method.getName() + " named?", page.contains("`" + method.getName() + "`") ? 1 : 0, 1);
            }
        }
        Matcher example = EXAMPLE.matcher(page);
        check.due("is there an example?", example.find() ? 1 : 0, 1);
        new ReadmeTest().holds(example.group(1), check);
        check.end();
    }

    private void holds(String example, Check check) throws Exception {
        long[] answers = answers(asClass(example));
        check.due("are there answers enough?", Math.min(told.size(), FEWEST_ANSWERS), FEWEST_ANSWERS);
        check.due("answers", answers.length, told.size());
        for (int i = 0; i < answers.length; i++) {
            check.due(calls.get(i), answers[i], told.get(i));
        }
    }

    /** The example as a class that hands out the answers of those lines whose answer the page tells. */
    private String asClass(String example) {
        StringBuilder body = new StringBuilder();
        for (String line : example.split("\n")) {
            Matcher answered = ANSWERED.matcher(line);
            if (!answered.matches()) {
                body.append(line).append('\n');
                continue;
            }
            String place = "answers[" + calls.size() + "]";
            calls.add(answered.group(2));
            told.add(Long.parseLong(answered.group(3)));
            body.append(place).append(" = ").append(answered.group(2)).append(";\n");
            if (answered.group(1) != null) {
                body.append(answered.group(1)).append("(int) ").append(place).append(";\n");
            }
        }
        return "public final class Example {\npublic static long[] answers() {\nlong[] answers = new long["
                + calls.size() + "];\n" + body + "return answers;\n}\n}\n";
    }

    private static long[] answers(String code) throws Exception {
        Path directory = Files.createTempDirectory("readme");
        Path source = directory.resolve("Example.java");
        Path result = directory.resolve("Example.class");
        try {
            Files.writeString(source, code);
            Process javac = new ProcessBuilder("javac", "-cp", System.getProperty("java.class.path"), "-d",
                    directory.toString(), source.toString()).inheritIO().start();
            if (javac.waitFor() != 0) {
                throw new IllegalStateException("the example of README.md does not compile");
            }
            try (URLClassLoader loader = new URLClassLoader(new URL[] {directory.toUri().toURL()})) {
                return (long[]) loader.loadClass("Example").getMethod("answers").invoke(null);
            }
        } finally {
            Files.deleteIfExists(result);
            Files.deleteIfExists(source);
            Files.deleteIfExists(directory);
        }
    }
}
