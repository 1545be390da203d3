import java.nio.charset.StandardCharsets;

/** What the project's tests share: counting wrong answers, and telling texts to the TAPE. */
final class Check {
    private static int asked = 0;
    private static int wrong = 0;

    private Check() {
    }

    static void due(String call, long got, long want) {
        asked++;
        if (got != want) {
            wrong++;
            System.out.println(call + " answered " + got + ", due is " + want);
        }
    }

    static void holds(String claim, boolean isSo) {
        asked++;
        if (!isSo) {
            wrong++;
            System.out.println("not so: " + claim);
        }
    }

    static void close(String test) {
        System.out.println(test + ": " + asked + " answers looked at, " + wrong + " wrong");
        if (wrong != 0 || asked == 0) {
            System.exit(1);
        }
    }

    static int[] words(byte[] bytes, int from) {
        int[] words = new int[5];
        for (int i = 0; i < 20; i++) {
            int b = from + i < bytes.length ? bytes[from + i] & 255 : 0;
            words[i / 4] = words[i / 4] << 8 | b;
        }
        return words;
    }

    /** The TAPE holds this text alone. */
    static void tell(BatchShare x, String text) {
        byte[] bytes = text.getBytes(StandardCharsets.ISO_8859_1);
        x.end(0);
        for (int from = 0; from < bytes.length; from += 20) {
            int[] w = words(bytes, from);
            x.feed(w[0], w[1], w[2], w[3], w[4]);
        }
        x.end(bytes.length);
    }

    static int base(BatchShare x, String text) {
        tell(x, text);
        return x.base();
    }

    static int query(BatchShare x, String text) {
        tell(x, text);
        return x.query();
    }

    /** A new object with this BASE and these QUERIES. */
    static BatchShare with(String base, String... queries) {
        BatchShare x = new BatchShare();
        if (!base.isEmpty()) {
            holds("a BASE: " + base, base(x, base) >= 0);
        }
        for (int i = 0; i < queries.length; i++) {
            due("number of QUERY " + queries[i], query(x, queries[i]), i);
        }
        return x;
    }
}
