import java.io.IOException;
import java.lang.reflect.Field;
import java.lang.reflect.Method;
import java.lang.reflect.Modifier;
import java.nio.file.Files;
import java.nio.file.Path;
import java.util.Arrays;
import java.util.List;
import java.util.Set;
import java.util.TreeSet;
import java.util.regex.Matcher;
import java.util.regex.Pattern;

/** What of ../shared/LANGUAGE.md can be seen from the source and from the class itself. */
public final class LanguageTest {
    private static final Path SOURCE = Path.of("src/main/java/BatchShare.java");
    private static final List<String> NAMES = List.of("feed", "end", "base", "query", "cell", "form", "digest", "alike", "answer",
        "alone", "candidates", "candidate", "gain", "greedy", "best", "put", "remove", "change", "strike", "keep", "forget", "refresh",
        "run", "undo", "kept", "batch", "costs", "serves", "marks", "shared", "residue", "drift", "seed", "count", "image", "back");
    private static final List<Integer> PARAMETERS = List.of(5, 1, 0, 0, 3, 2, 1, 1, 3, 1, 0, 2, 1, 1, 1, 4, 2, 4, 1, 1, 1, 1, 0, 0, 2,
        0, 1, 2, 2, 0, 2, 4, 1, 1, 1, 1);

    private static void face() throws ReflectiveOperationException {
        Class<BatchShare> type = BatchShare.class;
        Check.due("public final", type.getModifiers() & (Modifier.PUBLIC | Modifier.FINAL), Modifier.PUBLIC | Modifier.FINAL);
        Check.due("constructors", type.getDeclaredConstructors().length, 1);
        Check.due("public constructor", type.getDeclaredConstructor().getModifiers(), Modifier.PUBLIC);
        Set<String> found = new TreeSet<>();
        for (Method method : type.getDeclaredMethods()) {
            if (Modifier.isPrivate(method.getModifiers())) {
                Check.holds("no private " + method.getName(), !NAMES.contains(method.getName()));
                continue;
            }
            int at = NAMES.indexOf(method.getName());
            Check.due("modifiers of " + method, method.getModifiers(), Modifier.PUBLIC);
            Check.holds("of the face: " + method, at >= 0 && found.add(method.getName()));
            Check.due("parameters of " + method, method.getParameterCount(), PARAMETERS.get(Math.max(0, at)));
            Check.holds("int " + method, method.getReturnType() == int.class
                && Arrays.stream(method.getParameterTypes()).allMatch(t -> t == int.class));
        }
        Check.due("methods of the face", found.size(), 36);
        for (Field field : type.getDeclaredFields()) {
            boolean isNone = field.getName().equals("NONE") && Modifier.isPublic(field.getModifiers());
            Check.holds("private " + field, isNone || Modifier.isPrivate(field.getModifiers()));
        }
    }

    private static void classesInside() {
        Class<?>[] inside = BatchShare.class.getDeclaredClasses();
        Check.holds("some twelve classes", inside.length <= 11);
        for (Class<?> type : inside) {
            Check.holds("static " + type, Modifier.isStatic(type.getModifiers()) && !Modifier.isPublic(type.getModifiers()));
            for (Method method : type.getDeclaredMethods()) {
                Check.holds("another name for " + method, !NAMES.contains(method.getName()));
                Check.holds("seven parameters of " + method, method.getParameterCount() <= 7);
            }
            long fields = Arrays.stream(type.getDeclaredFields()).filter(f -> !Modifier.isStatic(f.getModifiers())).count();
            Check.holds("twenty fields of " + type, fields <= 20);
        }
        for (Field field : BatchShare.class.getDeclaredFields()) {
            boolean isStatic = Modifier.isStatic(field.getModifiers());
            Check.holds("static is final " + field, !isStatic || Modifier.isFinal(field.getModifiers()) && field.getType() == int.class);
        }
    }

    private static String bare(String source) {
        return source.replaceAll("(?s)/\\*.*?\\*/", "").replaceAll("//[^\n]*", "").replaceAll("\"[^\"\n]*\"", "\"\"");
    }

    private static void words(String source) {
        String code = bare(source);
        String[] never = {"throw", "throws", "try", "catch", "finally", "synchronized", "assert", "protected", "native", "volatile",
            "double", "float", "hashCode", "toString", "Object", "System\\.(?!arraycopy)\\w+", "\\w+Exact", "goto", "var", "package",
            "Thread", "Random", "yield", "sealed", "MAX_VALUE", "MIN_VALUE"};
        for (String word : never) {
            Check.holds("without " + word, !Pattern.compile("\\b" + word + "\\b").matcher(code).find());
        }
        Check.holds("no lambda, no method reference", !code.contains("->") && !code.contains("::"));
        Check.holds("no static block", !Pattern.compile("static\\s*\\{").matcher(code).find());
        Check.holds("loops with a bound", !Pattern.compile("while\\s*\\(true\\)|for\\s*\\([^;]*;\\s*;").matcher(code).find());
        Matcher imports = Pattern.compile("import ([^;]+);").matcher(code);
        while (imports.find()) {
            Check.holds("import " + imports.group(1), List.of("java.util.Arrays", "java.util.List", "java.util.ArrayList").contains(imports.group(1)));
        }
        Check.holds("signs 1 to 127", source.chars().allMatch(c -> c > 0 && c < 128));
    }

    private static void lengths(String source) {
        String[] lines = source.split("\n");
        int start = -1;
        for (int i = 0; i < lines.length; i++) {
            boolean opens = lines[i].matches(" {4}( {4})?[\\w\\[\\]<> ]+\\([^;]*\\) \\{") && !lines[i].matches(".*\\b(if|for|while|switch)\\b.*");
            if (opens) {
                start = i;
            } else if (start >= 0 && lines[i].matches(" {4}( {4})?\\}")) {
                Check.holds("some sixty lines: " + lines[start].trim(), i - start < 60);
                start = -1;
            }
        }
    }

    public static void main(String[] args) throws ReflectiveOperationException, IOException {
        String source = Files.readString(SOURCE);
        face();
        classesInside();
        words(source);
        lengths(source);
        Check.close("LanguageTest");
    }
}
