import java.io.IOException;
import java.lang.reflect.Method;
import java.lang.reflect.Modifier;
import java.nio.file.Files;
import java.nio.file.Path;
import java.util.Arrays;
import java.util.regex.Matcher;
import java.util.regex.Pattern;

/** Runs the lines of Java in README.md: each answer told behind a call must come, so that the page stays true. */
public final class ReadmeTest {
    private static final Pattern BLOCK = Pattern.compile("(?s)```java\n(.*?)```");
    private static final Pattern LINE = Pattern.compile("x\\.(\\w+)\\(([^)]*)\\);\\s*// (-?\\d+)(:.*)?");

    private static Object number(String told) {
        return told.equals("BatchShare.NONE") ? Integer.valueOf(BatchShare.NONE) : Integer.decode(told);
    }

    private static void call(BatchShare x, Matcher line) throws ReflectiveOperationException {
        Object[] args = line.group(2).isEmpty() ? new Object[0]
            : Arrays.stream(line.group(2).split(",\\s*")).map(ReadmeTest::number).toArray();
        Class<?>[] types = new Class<?>[args.length];
        Arrays.fill(types, int.class);
        int answer = (int) BatchShare.class.getMethod(line.group(1), types).invoke(x, args);
        Check.due(line.group(), answer, Integer.parseInt(line.group(3)));
    }

    private static void example(String page) throws ReflectiveOperationException {
        Matcher block = BLOCK.matcher(page);
        Check.holds("lines of Java", block.find());
        String[] lines = block.group(1).split("\n");
        Check.holds("a new object first", lines[0].equals("BatchShare x = new BatchShare();"));
        BatchShare x = new BatchShare();
        for (int i = 1; i < lines.length; i++) {
            Matcher line = LINE.matcher(lines[i]);
            boolean isCall = line.matches();
            Check.holds("a call and its answer: " + lines[i], isCall);
            if (isCall) {
                call(x, line);
            }
        }
    }

    private static void names(String page) {
        for (Method method : BatchShare.class.getDeclaredMethods()) {
            if (Modifier.isPublic(method.getModifiers())) {
                Check.holds("README.md names " + method.getName(), page.contains("`" + method.getName() + "`"));
            }
        }
        for (String test : new java.io.File("src/test/java").list()) {
            if (test.endsWith("Test.java")) {
                String name = test.substring(0, test.length() - 5);
                Check.holds("README.md names " + name, page.contains("`" + name + "`"));
            }
        }
    }

    public static void main(String[] args) throws IOException, ReflectiveOperationException {
        String page = Files.readString(Path.of("README.md"));
        example(page);
        names(page);
        Check.close("ReadmeTest");
    }
}
