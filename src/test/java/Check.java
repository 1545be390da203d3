import java.nio.charset.StandardCharsets;

/** What the project's tests share: counting wrong answers, telling texts to the TAPE, seeing that nothing happened. */
final class Check {
    interface Maker {
        BatchShare make();
    }

    interface Call {
        int on(BatchShare x);
    }

    private static int asked = 0;
    private static int wrong = 0;
    private static String sentence = "";

    private Check() {
    }

    /** The sentence of the document that what follows would break. */
    static void says(String words) {
        sentence = words;
    }

    static void due(String call, long got, long want) {
        asked++;
        if (got != want) {
            wrong++;
            System.out.println(call + " answered " + got + ", due is " + want + of());
        }
    }

    static void holds(String claim, boolean isSo) {
        asked++;
        if (!isSo) {
            wrong++;
            System.out.println("not so: " + claim + of());
        }
    }

    private static String of() {
        return sentence.isEmpty() ? "" : " (\"" + sentence + "\")";
    }

    static void close(String test) {
        System.out.println(test + ": " + asked + " answers looked at, " + wrong + " wrong");
        if (wrong != 0 || asked == 0) {
            System.exit(1);
        }
    }

    static int[] words(byte[] bytes, int from) {
        int[] words = new int[5];
        for (int i = 0; i < 20; i++) {
            int b = from + i < bytes.length ? bytes[from + i] & 255 : 0;
            words[i / 4] = words[i / 4] << 8 | b;
        }
        return words;
    }

    /** The TAPE holds this text alone. */
    static void tell(BatchShare x, String text) {
        byte[] bytes = text.getBytes(StandardCharsets.ISO_8859_1);
        x.end(0);
        for (int from = 0; from < bytes.length; from += 20) {
            int[] w = words(bytes, from);
            x.feed(w[0], w[1], w[2], w[3], w[4]);
        }
        x.end(bytes.length);
    }

    static int base(BatchShare x, String text) {
        tell(x, text);
        return x.base();
    }

    static int query(BatchShare x, String text) {
        tell(x, text);
        return x.query();
    }

    /** A new object with this BASE and these QUERIES. */
    static BatchShare with(String base, String... queries) {
        BatchShare x = new BatchShare();
        if (!base.isEmpty()) {
            holds("a BASE: " + base, base(x, base) >= 0);
        }
        for (int i = 0; i < queries.length; i++) {
            due("number of QUERY " + queries[i], query(x, queries[i]), i);
        }
        return x;
    }

    /** All of the state that can be asked for, in fewer than 200 calls: an object has 512 at most. */
    static String told(BatchShare x) {
        StringBuilder told = new StringBuilder();
        for (int what = 0; what < 12; what++) {
            told.append(x.count(what)).append(' ');
        }
        for (int table = 0; table < 2; table++) {
            for (int row = 0; row < x.count(1 + table); row++) {
                for (int col = 3 * table; col < 3 + 2 * table; col++) {
                    told.append(x.cell(table, row, col)).append(col % 3 == 2 ? ", " : " ");
                }
            }
        }
        for (int k = 0; k < x.count(5); k++) {
            for (int what = 0; what < 16; what++) {
                told.append(x.kept(k, what)).append(' ');
            }
        }
        return told.append(x.batch()).append(' ').append(x.candidates()).toString();
    }

    static void same(String call, String before, BatchShare x) {
        String now = told(x);
        holds(call + ": nothing happens (" + before + " | " + now + ")", before.equals(now));
    }

    /** The call is refused, and nothing happens. */
    static void refused(String call, Maker maker, Call on, int want) {
        due(call, on.on(maker.make()), want);
        leavesAll(call, maker, on);
    }

    /** By the call nothing changes: not now, not what can be UNDONE, not IMAGES, not the TAPE. */
    static void leavesAll(String call, Maker maker, Call on) {
        int acts = maker.make().count(9);
        for (int undone = 0; undone <= acts; undone++) {
            int times = undone;
            twins(call + ", " + undone + " UNDONE", maker, on, x -> undoTimes(x, times));
        }
        for (int k = 0; k < 4; k++) {
            int image = k;
            twins(call + ", back(" + k + ")", maker, on, x -> x.back(image));
        }
        twins(call + ", base()", maker, on, x -> x.base());
        twins(call + ", query()", maker, on, x -> x.query());
        twins(call + ", drift", maker, on, x -> x.drift(2, 9, 80, 0));
    }

    /** An object with all that a call could spoil: rows, QUERIES (STRUCK, VOID), KEPT ones (STALE, too), ACTS, two IMAGES, x, a TAPE. */
    static BatchShare busy() {
        BatchShare x = with("base 9;r 1 2 3;r 2 5 3;r 4 4 0;r 6 5 9;s 1 7;s 2 8;s 2 0",
            "r if a<=2", "s if e>=7 show e", "join a=d if a<3 show b,e", "r if b>5 and b<5", "r if a>=4");
        x.seed(5);
        x.image(2);
        x.keep(0);
        x.keep(1);
        x.strike(4);
        x.run();
        x.keep(3);
        x.seed(77);
        x.image(0);
        x.put(0, 2, 2, 2);
        x.strike(1);
        tell(x, "base 8;r 7 7 7");
        return x;
    }

    private static int undoTimes(BatchShare x, int times) {
        int left = 0;
        for (int i = 0; i < times; i++) {
            left = x.undo();
        }
        return left;
    }

    private static void twins(String claim, Maker maker, Call on, Call then) {
        BatchShare x = maker.make();
        BatchShare twin = maker.make();
        on.on(x);
        due(claim, then.on(x), then.on(twin));
        same(claim, told(twin), x);
    }
}
