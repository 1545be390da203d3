import java.lang.reflect.InvocationTargetException;
import java.lang.reflect.Method;
import java.util.ArrayList;
import java.util.Arrays;
import java.util.Comparator;
import java.util.List;
import java.util.Random;

/** Runs of calls by draws, on BatchShare and on the Model, which must answer alike (all promises). */
public final class ModelTest {
    private static final int RUNS = 1500;
    private static final int CALLS = 512;

    private final Random random;
    private final BatchShare real = new BatchShare();
    private final Model model = new Model();
    private final List<String> told = new ArrayList<>();
    private int calls = 0;
    private boolean differs = false;

    private ModelTest(long seed) {
        random = new Random(seed);
    }

    public static void main(String[] args) throws ReflectiveOperationException {
        int runs = args.length > 0 ? Integer.parseInt(args[0]) : RUNS;
        for (int run = 0; run < runs; run++) {
            ModelTest test = new ModelTest(run);
            test.go(run);
            if (test.differs) {
                System.out.println("run " + run + ":");
                test.told.forEach(System.out::println);
                System.exit(1);
            }
        }
        Check.holds("runs have been made", runs > 0);
        Check.close("ModelTest (" + runs + " runs)");
    }

    private static final Method[] FACE = face();

    private static Method[] face() {
        return Arrays.stream(BatchShare.class.getDeclaredMethods())
            .filter(m -> java.lang.reflect.Modifier.isPublic(m.getModifiers()))
            .sorted(Comparator.comparing(Method::getName)).toArray(Method[]::new);
    }

    private int both(String name, Object... args) throws ReflectiveOperationException {
        if (calls >= CALLS || differs) {
            return -9;
        }
        calls++;
        Class<?>[] types = new Class<?>[args.length];
        Arrays.fill(types, int.class);
        int want = (int) Model.class.getDeclaredMethod(name, types).invoke(model, args);
        String got;
        try {
            got = String.valueOf(BatchShare.class.getMethod(name, types).invoke(real, args));
        } catch (InvocationTargetException e) {
            got = String.valueOf(e.getCause());
        }
        told.add(name + Arrays.toString(args) + " answered " + got + ", due is " + want);
        differs = !got.equals(String.valueOf(want));
        return want;
    }

    private void go(int run) throws ReflectiveOperationException {
        int shape = run % 5;
        if (random.nextInt(8) > 0) {
            tell(baseText(shape), "base");
        }
        int queries = random.nextInt(9);
        for (int i = 0; i < queries; i++) {
            tell(queryText(shape), "query");
        }
        while (calls < CALLS && !differs) {
            int sort = random.nextInt(100);
            if (sort == 0) {
                tell(random.nextInt(3) == 0 ? spoilt(baseText(shape)) : baseText(shape), "base");
            } else if (sort < 4) {
                tell(random.nextInt(2) == 0 ? spoilt(queryText(shape)) : queryText(shape), "query");
            } else if (sort < 14) {
                both("keep", random.nextInt(Math.max(1, model.candidates()) + 1) - random.nextInt(2));
            } else if (sort < 18) {
                both("refresh", near(5));
            } else {
                Method method = FACE[random.nextInt(FACE.length)];
                Object[] args = argsOf(method);
                boolean isRare = method.getName().equals("best") || method.getName().equals("drift");
                if (!isRare || random.nextInt(4) == 0) {
                    both(method.getName(), args);
                }
            }
        }
    }

    /** 0 to most, at times a little beside. */
    private int near(int most) {
        return random.nextInt(12) == 0 ? random.nextInt(most + 5) - 2 : random.nextInt(most + 1);
    }

    private Object[] argsOf(Method method) {
        return switch (method.getName()) {
            case "feed" -> random.nextInt(6) > 0 ? new Object[] {1914726758, 543243315, 0, 0, 0}
                : new Object[] {random.nextInt(), random.nextInt(), random.nextInt(), random.nextInt(), random.nextInt()};
            case "end" -> new Object[] {random.nextInt(3) > 0 ? 8 : random.nextInt(420) - 5};
            case "cell" -> new Object[] {near(1), near(11), near(4)};
            case "form" -> new Object[] {near(7), near(20)};
            case "digest", "alike", "alone", "strike", "costs" -> new Object[] {near(7)};
            case "answer" -> new Object[] {near(7), random.nextInt(8) - 1, near(4)};
            case "candidate" -> new Object[] {near(30), near(14)};
            case "gain" -> new Object[] {near(30)};
            case "greedy" -> new Object[] {near(7)};
            case "best" -> new Object[] {near(2)};
            case "put" -> new Object[] {near(1), near(9), near(9), near(9)};
            case "remove", "marks" -> new Object[] {near(1), near(11)};
            case "change" -> new Object[] {near(1), near(7), near(4), near(9)};
            case "forget" -> new Object[] {random.nextInt(3) > 0 ? -1 : near(5)};
            case "refresh" -> new Object[] {near(5)};
            case "keep" -> new Object[] {near(20)};
            case "kept" -> new Object[] {near(5), near(15)};
            case "serves" -> new Object[] {near(7), near(2)};
            case "residue" -> new Object[] {near(7), near(5)};
            case "drift" -> new Object[] {1 + near(4), 1 + near(29), near(100), near(1)};
            case "seed" -> new Object[] {random.nextInt()};
            case "count" -> new Object[] {near(11)};
            case "image", "back" -> new Object[] {near(3)};
            default -> new Object[0];
        };
    }

    // ---- texts

    private void tell(String text, String as) throws ReflectiveOperationException {
        both("end", 0);
        byte[] bytes = text.getBytes(java.nio.charset.StandardCharsets.ISO_8859_1);
        for (int from = 0; from < bytes.length; from += 20) {
            int[] w = Check.words(bytes, from);
            both("feed", w[0], w[1], w[2], w[3], w[4]);
        }
        both("end", Math.min(400, bytes.length));
        told.add("  the text is '" + text + "'");
        both(as);
    }

    private String gap() {
        return random.nextInt(20) == 0 ? "  " : random.nextInt(4) == 0 ? " " : "";
    }

    /** Few different numbers, so that rows join and ranges hold one another. */
    private int digit(int shape) {
        return shape % 4 == 0 ? random.nextInt(10) : 3 + random.nextInt(shape == 1 ? 4 : 3);
    }

    private String baseText(int shape) {
        int memory = random.nextInt(4) == 0 ? random.nextInt(100) : random.nextInt(25);
        StringBuilder text = new StringBuilder(gap() + "base " + memory + gap());
        int rows = random.nextInt(20) == 0 ? random.nextInt(24) : 8 + random.nextInt(11);
        for (int i = 0; i < rows; i++) {
            text.append(';').append(gap());
            if (random.nextInt(5) < 3) {
                text.append("r " + digit(shape) + " " + digit(shape) + " " + digit(shape));
            } else {
                text.append("s" + gap() + digit(shape) + " " + digit(shape));
            }
            text.append(gap());
        }
        return text.toString();
    }

    private String queryText(int shape) {
        int source = shape == 3 ? 2 : random.nextInt(3);
        String cols = source == 0 ? "abc" : source == 1 ? "de" : "abcde";
        if (shape == 4 && random.nextInt(4) > 0) {
            // Few ranges on each side, crossed: then parts of one table serve several joins.
            return "join " + pick("abc") + "=" + pick("de") + " if b=" + digit(1) + " and e=" + digit(1);
        }
        StringBuilder text = new StringBuilder(gap());
        if (source == 2) {
            text.append("join " + gap() + (shape >= 2 ? "a" : pick("abc")) + gap() + "=" + gap() + (shape == 3 ? "d" : pick("de")));
        } else {
            text.append(source == 0 ? "r" : "s");
        }
        int steps = random.nextInt(4);
        for (int i = 0; i < steps; i++) {
            if (random.nextInt(3) > 0) {
                text.append(" if " + test(cols, shape));
                int more = random.nextInt(30) == 0 ? random.nextInt(14) : random.nextInt(2);
                for (int k = 0; k < more; k++) {
                    text.append(gap() + "and " + test(cols, shape));
                }
            } else {
                text.append(" show " + pick(cols));
                int more = random.nextInt(20) == 0 ? random.nextInt(6) : random.nextInt(3);
                for (int k = 0; k < more; k++) {
                    text.append(gap() + "," + gap() + pick(cols));
                }
            }
        }
        return text + gap();
    }

    private String test(String cols, int shape) {
        String[] signs = {"<", "<=", "=", ">=", ">"};
        String sign = signs[random.nextInt(3) == 0 ? random.nextInt(5) : random.nextBoolean() ? 1 : 3];
        String zeros = random.nextInt(15) == 0 ? "000000".substring(random.nextInt(5)) : "";
        return pick(cols) + gap() + sign + gap() + zeros + digit(shape);
    }

    private String pick(String letters) {
        int i = random.nextInt(letters.length());
        return letters.substring(i, i + 1);
    }

    private String spoilt(String text) {
        StringBuilder spoilt = new StringBuilder(text);
        String bytes = "abcdefrsjoin ;=<>,0123456789AZ{`/:\u0000\u00ff";
        int times = 1 + random.nextInt(2);
        for (int i = 0; i < times && spoilt.length() > 0; i++) {
            int at = random.nextInt(spoilt.length());
            int way = random.nextInt(4);
            if (way == 0) {
                spoilt.deleteCharAt(at);
            } else if (way == 1) {
                spoilt.setCharAt(at, pick(bytes).charAt(0));
            } else if (way == 2) {
                spoilt.insert(at, pick(bytes));
            } else {
                spoilt.setLength(at);
            }
        }
        return spoilt.toString();
    }
}
