import java.math.BigInteger;

/** Part III of the document, sentence by sentence: the edges of GAIN, GREEDY, BEST, MARKS, SHARED, RESIDUE, DRIFT and IMAGES. */
public final class AskEdgesTest {
    private static final int NONE = BatchShare.NONE;

    private static void due(String call, long got, long want) {
        Check.due(call, got, want);
    }

    private static void leavesAll(String call, Check.Call on) {
        Check.leavesAll(call, Check::busy, on);
    }

    private static void askingChangesNothing() {
        Check.says("(By what is asked nothing changes.)");
        int[] any = {-2, -1, 0, 1, 2, 3, 9};
        for (int n : any) {
            leavesAll("cell", x -> x.cell(0, n, 1));
            leavesAll("form", x -> x.form(2, n));
            leavesAll("digest", x -> x.digest(n));
            leavesAll("alike", x -> x.alike(n));
            leavesAll("answer", x -> x.answer(2, n, 0));
            leavesAll("alone", x -> x.alone(n));
            leavesAll("candidate", x -> x.candidate(n, 13));
            leavesAll("gain", x -> x.gain(n));
            leavesAll("greedy", x -> x.greedy(n));
            leavesAll("best", x -> x.best(n));
            leavesAll("kept", x -> x.kept(n, 13));
            leavesAll("costs", x -> x.costs(n));
            leavesAll("serves", x -> x.serves(2, n));
            leavesAll("marks", x -> x.marks(0, n));
            leavesAll("residue", x -> x.residue(2, n));
            leavesAll("drift", x -> x.drift(5, 30, 100, n));
            leavesAll("count", x -> x.count(n));
        }
        leavesAll("candidates", x -> x.candidates());
        leavesAll("batch", x -> x.batch());
        leavesAll("shared", x -> x.shared());
    }

    /** Two QUERIES want this many of this many rows of R. */
    private static BatchShare wanted(int memory, int wanted, int rows) {
        StringBuilder base = new StringBuilder("base " + memory);
        for (int i = 0; i < rows; i++) {
            base.append(i < wanted ? ";r 0 0 0" : ";r 1 0 0");
        }
        return Check.with(base.toString(), "r if a=0", "r if a=0 show b");
    }

    private static void gains() {
        Check.says("GAIN of a CANDIDATE: BATCH as it is, less BATCH if that were KEPT besides, made now, less MAKE.");
        due("nothing", wanted(9, 2, 4).gain(0), 10000);
        due("one", wanted(9, 2, 5).gain(0), 10001);
        due("one less", wanted(9, 2, 3).gain(0), 9999);
        due("no ROWS", wanted(9, 0, 12).gain(0), 10012);
        due("all ROWS", wanted(9, 12, 12).gain(0), 10000 - 12);
        due("no rows", wanted(9, 0, 0).gain(0), 10000);
        BatchShare x = wanted(9, 2, 5);
        x.keep(0);
        due("KEPT already", x.gain(0), 10000 - 5);
        x.change(0, 0, 1, 1);
        due("KEPT, but STALE", x.gain(0), 10001);
        x.change(0, 0, 0, 1);
        due("made now, of 1 ROW", x.gain(0), 10000 + 8 - 5);
        due("more than MEMORY", wanted(0, 2, 5).gain(0), 10001);
        BatchShare full = Check.with("base 9" + ";r 1 1 1".repeat(12) + ";s 1 1".repeat(8), "join a=d");
        due("the dearest", full.gain(2), 10000 + 116 - 96 - 116);
        full.strike(0);
        due("STRUCK: no such CANDIDATE", full.gain(2), NONE);
    }

    private static void greedy(String name, BatchShare x, int... told) {
        for (int what = 0; what < 8; what++) {
            due("greedy(" + what + ") " + name, x.greedy(what), what < told.length ? told[what] : NONE);
        }
        due("greedy(0) again " + name, x.greedy(0), told[0]);
    }

    private static void greedyAboveNothing() {
        Check.says("each time that of greatest GAIN (with those taken KEPT), if it is above 0");
        greedy("0 is not above 0", wanted(9, 2, 4), 0, 0);
        greedy("1 is", wanted(9, 2, 5), 1, 1, 0);
        greedy("no CANDIDATES", Check.with("base 9;r 1 1 1"), 0, 0);
        greedy("no rows", Check.with("base 9", "r", "r"), 0, 0);
        // The PART of all three QUERIES gains 3 * 4 - 6 = 6; behind it a = 0 gains 2 * 1 - 6 no more.
        BatchShare with = Check.with("base 9;r 0 0 0;r 0 1 0;r 1 0 0;r 2 0 0;r 3 0 0;r 4 0 0", "r if a=0", "r if a=0 and b=0", "r if a=0 and b=0 show b");
        due("alone the first gains", with.gain(0), 10000 + 3 * 4 - 6);
        due("alone the second gains", with.gain(1), 10000 + 2 * 5 - 6);
        greedy("with those taken KEPT", with, 1, 6, 0);
    }

    private static void greedyWithRoom() {
        Check.says("of those whose ROWS have room in MEMORY with those taken");
        greedy("just room", wanted(2, 2, 5), 1, 1, 0);
        greedy("one too few", wanted(1, 2, 5), 0, 0);
        String rows = ";r 0 0 0;r 1 0 0;r 2 0 0;r 3 0 0;r 4 0 0;r 5 0 0;s 0 0;s 0 1;s 2 0;s 3 0;s 4 0;s 5 0;s 6 0";
        String[] texts = {"r if a=0", "r if a=0", "s if d=0", "s if d=0"};
        greedy("both", Check.with("base 3" + rows, texts), 2, 4 + 3, 0, 1);
        greedy("one alone", Check.with("base 2" + rows, texts), 1, 4, 0);
        greedy("none", Check.with("base 0" + rows, texts), 0, 0);
        BatchShare kept = Check.with("base 3" + rows, texts);
        kept.keep(0);
        kept.keep(1);
        greedy("as if nothing was KEPT", kept, 2, 4 + 3, 0, 1);
    }

    private static void greedyOfSeveral() {
        Check.says("of several that of fewer ROWS, then the least");
        // Of six rows of R one is wanted twice: 2 * 5 - 6; of eight of S two: 2 * 6 - 8. Both gain 4.
        String rows = ";r 0 0 0;r 1 0 0;r 2 0 0;r 3 0 0;r 4 0 0;r 5 0 0;s 0 0;s 0 1;s 2 0;s 3 0;s 4 0;s 5 0;s 6 0;s 7 0";
        greedy("fewer ROWS", Check.with("base 9" + rows, "s if d=0", "s if d=0", "r if a=0", "r if a=0"), 2, 8, 1, 0);
        greedy("fewer ROWS", Check.with("base 9" + rows, "r if a=0", "r if a=0", "s if d=0", "s if d=0"), 2, 8, 0, 1);
        greedy("the least", Check.with("base 9" + rows, "r if a=5", "r if a=5", "r if a=2", "r if a=2"), 2, 8, 0, 1);
        greedy("the greatest GAIN ahead of fewer ROWS", Check.with("base 9" + rows, "r if a=0", "r if a=0", "s if d=0", "s if d=0", "s if d=0"),
            2, 4 + 10, 1, 0);
    }

    /** Each RANGE of R, of S is wanted by two joins, and has no row: of eight PARTS each gains 4. */
    private static BatchShare crossed(int struck) {
        String[] cols = {"a=d", "a=e", "b=d", "b=e", "c=d", "c=e", "a=d", "a=e"};
        String[] ofR = {"a=0", "a=9", "b=0", "b=9"};
        String[] ofS = {"d=0", "d=9", "e=0", "e=9"};
        String[] joins = new String[8];
        for (int i = 0; i < 8; i++) {
            joins[i] = "join " + cols[i] + " if " + ofR[i / 2] + " and " + ofS[(i + 1) / 2 % 4];
        }
        BatchShare x = Check.with("base 0" + ";r 5 5 5".repeat(4) + ";s 5 5".repeat(4), joins);
        for (int q = 8 - struck; q < 8; q++) {
            x.strike(q);
        }
        return x;
    }

    private static void greedySixAtMost() {
        Check.says("six at most: how many; what they GAIN, together; the k-th");
        greedy("eight could be taken", crossed(0), 6, 24, 0, 1, 3, 5, 7, 9);
        due("six of six", crossed(1).greedy(0), 6);
        due("five of five", crossed(2).greedy(0), 5);
        due("five of five", crossed(2).greedy(1), 20);
        due("the fifth", crossed(2).greedy(6), 9);
        due("no sixth", crossed(2).greedy(7), NONE);
    }

    private static void best(String name, BatchShare x, int... told) {
        for (int what = 0; what < 3; what++) {
            due("best(" + what + ") " + name, x.best(what), told[what]);
        }
        due("best(0) again " + name, x.best(0), told[0]);
    }

    private static void bestAboveNothing() {
        Check.says("BEST: as if nothing was KEPT, of all sets of one or two CANDIDATES that have room in MEMORY that of greatest GAIN of both together, "
            + "if that is above 0");
        best("0 is not above 0", wanted(9, 2, 4), 0, NONE, NONE);
        best("1 is", wanted(9, 2, 5), 1, 0, NONE);
        best("just room", wanted(2, 2, 5), 1, 0, NONE);
        best("one too few", wanted(1, 2, 5), 0, NONE, NONE);
        best("no CANDIDATES", Check.with("base 9"), 0, NONE, NONE);
        String rows = ";r 0 0 0;r 1 0 0;r 2 0 0;r 3 0 0;r 4 0 0;r 5 0 0;s 0 0;s 0 1;s 2 0;s 3 0;s 4 0;s 5 0;s 6 0";
        String[] texts = {"s if d=0", "s if d=0", "r if a=0", "r if a=0"};
        best("two, just room", Check.with("base 3" + rows, texts), 7, 0, 1);
        best("one too few for both", Check.with("base 2" + rows, texts), 4, 1, NONE);
        best("room for none", Check.with("base 0" + rows, texts), 0, NONE, NONE);
        BatchShare kept = Check.with("base 3" + rows, texts);
        kept.keep(0);
        kept.keep(1);
        best("as if nothing was KEPT", kept, 7, 0, 1);
        best("two at most", crossed(0), 8, 0, 1);
    }

    private static void bestOfSeveral() {
        Check.says("of several fewer ones, then the first (by the lesser one, then the greater one): how much; which");
        String rows = ";r 0 0 0;r 1 0 0;r 2 0 0;r 3 0 0;s 0 0;s 0 1;s 2 0;s 3 0";
        // r a = 0 gains 2; s d = 0 gains 2 * 2 - 4 = 0: one or both gain 2.
        best("fewer ones", Check.with("base 9" + rows, "r if a=0", "r if a=0", "s if d=0", "s if d=0"), 2, 0, NONE);
        best("fewer ones", Check.with("base 9" + rows, "s if d=0", "s if d=0", "r if a=0", "r if a=0"), 2, 1, NONE);
        best("the first one", Check.with("base 1" + rows, "r if a=0", "r if a=0", "r if a=3", "r if a=3"), 2, 0, NONE);
        // The first gains 4 * 2 - 4, the second, within it, 2 * 4 - 4, and both together no more than the first.
        String[] within = {"r if a<=1", "r if a<=1", "r if a<=1 and b=9", "r if a<=1 and b=9"};
        best("fewer ones, if both gain alone", Check.with("base 9" + rows, within), 4, 0, NONE);
        String[] three = {"r if a=3", "r if a=3", "r if a=1", "r if a=1", "s if d=2", "s if d=2"};
        best("by the lesser one, then the greater", Check.with("base 2" + rows, three), 4, 0, 1);
        // The first gains 2 with 2 ROWS, the others 2 with 1: room for 2 ROWS alone, so the last pair is the first.
        String more = ";r 0 0 0;r 0 1 0;r 1 0 0;r 2 0 0;r 3 0 0;r 4 0 0;s 0 0;s 1 1;s 2 0;s 3 0";
        String[] last = {"r if a=0", "r if a=0", "s if d=0", "s if d=0", "s if d=3", "s if d=3"};
        best("the one pair with room", Check.with("base 2" + more, last), 4, 1, 2);
        best("a pair ahead of it with room", Check.with("base 3" + more, last), 4, 0, 1);
    }

    /** Asked for before, a WIDE one had no ROWS; then there are rows, and a CANDIDATE fewer. */
    private static void onlyCandidatesOfNow() {
        Check.says("as if nothing was KEPT, one CANDIDATE behind the other is taken");
        BatchShare x = Check.with("base 9" + ";r 5 0 0".repeat(4), "r if a=0", "r if a=1", "r if a=2");
        greedy("three PARTS, three WIDE ones", x, 1, 3 * 4 - 4, 4);
        best("three PARTS, three WIDE ones", x, 3 * 4 - 4, 4, NONE);
        x.put(0, 0, 0, 0);
        x.put(0, 0, 0, 0);
        x.put(0, 1, 0, 0);
        x.put(0, 1, 0, 0);
        x.strike(2);
        due("two PARTS, one WIDE one", x.candidates(), 3);
        greedy("now 2 * 4 - 8 is not above 0", x, 0, 0);
        best("now 2 * 4 - 8 is not above 0", x, 0, NONE, NONE);
    }

    private static void asManyCandidatesAsCanBe() {
        Check.says("each unlike all ahead of it");
        String[] joins = new String[8];
        for (int i = 0; i < 8; i++) {
            joins[i] = "join a=d if a=" + i + " and d=" + (7 - i);
        }
        BatchShare x = Check.with("base 9;r 9 9 9;s 9 9", joins);
        due("as many as there can be", x.candidates(), 108);
        due("the last, of kind 2", x.gain(107), 10000 + 2 * 2 - 2);
        due("none behind it", x.gain(108), NONE);
        // The widest of kind 0, 1, 2 serve all eight: 8 * 1 - 1, 8 * 1 - 1, 8 * 2 - 2.
        greedy("of 108", x, 1, 14, 44);
        best("of 108, and the pair of kinds 0 and 1 gains as much", x, 14, 44, NONE);
    }

    private static void marks() {
        Check.says("MARKS of a row of R, of S: QUERIES (not VOID, not STRUCK) that have a PART of kind 0, of kind 1, in whose RANGES it is, as bits.");
        BatchShare x = Check.with("base 9;r 3 3 3;s 6 6", "r if a>=3", "r if b<=3", "r if c=3", "join a=d if a<=3 and e>6", "join b=e", "s if d<=6",
            "s if e<6", "join c=d if d>=6");
        due("of R: bits 0, 1, 2, 3, 4, 7", x.marks(0, 0), 1 + 2 + 4 + 8 + 16 + 128);
        due("of S: bits 4, 5, 7", x.marks(1, 0), 16 + 32 + 128);
        x.strike(7);
        due("STRUCK", x.marks(0, 0), 1 + 2 + 4 + 8 + 16);
        due("STRUCK", x.marks(1, 0), 16 + 32);
        x.change(0, 0, 0, 2);
        due("one below", x.marks(0, 0), 2 + 4 + 8 + 16);
        x.change(0, 0, 1, 4);
        due("one above", x.marks(0, 0), 4 + 8 + 16);
        String[] all = new String[8];
        java.util.Arrays.fill(all, "join a=d");
        due("all eight", Check.with("base 9;r 3 3 3;s 6 6", all).marks(0, 0), 255);
        due("all eight", Check.with("base 9;r 3 3 3;s 6 6", all).marks(1, 0), 255);
        due("none", Check.with("base 9;r 3 3 3").marks(0, 0), 0);
        due("VOID", Check.with("base 9;r 1 1 1;s 0 0", "r if a<0", "join a=d if e<0", "s if d>9").marks(0, 0), 0);
        due("VOID", Check.with("base 9;r 1 1 1;s 0 0", "r if a<0", "join a=d if a<0", "s if d>9").marks(1, 0), 0);
    }

    private static void sharedScan() {
        Check.says("SHARED: rows of R, if any QUERY (not VOID, not STRUCK) has a PART of kind 0, rows of S likewise, and for each two COLS that are joined "
            + "by any such QUERY: rows of R with a MARK of such ones of these COLS, times rows of S with one.");
        String rows = ";r 1 1 1;r 2 2 2;r 3 3 3;s 1 1;s 2 2";
        due("no QUERIES", Check.with("base 9" + rows).shared(), 0);
        due("R", Check.with("base 9" + rows, "r if a=9", "r").shared(), 3);
        due("S", Check.with("base 9" + rows, "s if d=9").shared(), 2);
        due("a join of no rows", Check.with("base 9" + rows, "join a=d if a=9").shared(), 3 + 2);
        due("a join of all", Check.with("base 9" + rows, "join a=d").shared(), 3 + 2 + 6);
        due("two of the same COLS once", Check.with("base 9" + rows, "join a=d", "join a=d if a=1").shared(), 3 + 2 + 6);
        due("rows of either", Check.with("base 9" + rows, "join a=d if a=1 and e=1", "join a=d if a=3 and e=2").shared(), 3 + 2 + 2 * 2);
        due("other COLS", Check.with("base 9" + rows, "join a=d if a=1", "join a=e if a=1", "join b=d if a=1", "join c=e if a=9").shared(), 5 + 2 + 2 + 2);
        due("all six", Check.with("base 9" + rows, "join a=d", "join a=e", "join b=d", "join b=e", "join c=d", "join c=e").shared(), 5 + 6 * 6);
        due("MARKS of others do not count", Check.with("base 9" + rows, "r", "s", "join a=d if a=1 and d=1").shared(), 5 + 1);
        due("VOID", Check.with("base 9" + rows, "join a=d if e<0", "r if a<0").shared(), 0);
        BatchShare x = Check.with("base 9" + rows, "join a=d", "s");
        x.strike(0);
        due("STRUCK", x.shared(), 2);
        due("no rows of S", Check.with("base 9;r 1 1 1", "join a=d").shared(), 1);
    }

    private static void residues() {
        Check.says("RESIDUE of a QUERY by one KEPT (not STALE, that HOLDS its PART of that kind): how many of ROWS the QUERY filters out.");
        String rows = ";r 1 1 1;r 1 2 2;r 3 3 3;s 1 1;s 1 2";
        BatchShare x = Check.with("base 50" + rows, "join a=d", "join a=d if b=1 and e=1", "r if a=9", "r", "r if b<=2", "s if d=9", "join a=e");
        x.keep(0);
        x.keep(1);
        x.keep(2);
        due("kinds", x.kept(0, 0) * 100 + x.kept(1, 0) * 10 + x.kept(2, 0), 12);
        int[][] residues = {{0, 0, 0}, {2, 1, 3}, {3, -2, -2}, {0, -2, -2}, {1, -2, -2}, {-2, 2, -2}, {0, 0, -2}};
        for (int q = 0; q < residues.length; q++) {
            for (int k = 0; k < 3; k++) {
                due("residue(" + q + ", " + k + ")", x.residue(q, k), residues[q][k]);
            }
        }
        x.put(0, 9, 9, 9);
        due("STALE", x.residue(3, 0), -2);
        due("STALE", x.residue(1, 2), -2);
        due("not STALE", x.residue(1, 1), 1);
        x.refresh(0);
        due("one more is filtered out", x.residue(4, 0), 2);
    }

    private static final class Draws {
        private BigInteger x;

        Draws(long x) {
            this.x = BigInteger.valueOf(x);
        }

        int draw() {
            x = x.multiply(BigInteger.valueOf(1103515245)).add(BigInteger.valueOf(12345)).mod(BigInteger.valueOf(2147483648L));
            return x.divide(BigInteger.valueOf(65536)).intValue();
        }
    }

    private static void draws() {
        Check.says("x (0 to 2147483647; 0 at first) becomes x * 1103515245 + 12345, of 2147483648 the rest; a DRAW is x / 65536");
        due("0 at first", new BatchShare().count(10), 0);
        int[] seeds = {0, 1, 2, 65535, 65536, 1073741823, 1073741824, 2147483646, 2147483647, 1103515245, 12345, 99999999};
        for (int seed : seeds) {
            Draws draws = new Draws(seed);
            int below = draws.draw() % 100;
            draws.draw();
            draws.draw();
            boolean isAnother = draws.draw() % 10 != 5;
            BatchShare x = Check.with("base 9;r 5 5 5", "r");
            x.keep(0);
            due("seed", x.seed(seed), 0);
            due("not below " + below, x.drift(1, 1, below, 1), 0);
            due("below " + (below + 1), x.drift(1, 1, below + 1, 1), isAnother ? 1 : 0);
            due("x as it was", x.count(10), seed);
        }
    }

    /** BATCH of a join of rows of R with a <= 4, b <= 6, c >= 2 and both rows of S, over all times and steps. */
    private static int drifted(int[][] from, int seed, int m, int n, int p) {
        Draws draws = new Draws(seed);
        int sum = 0;
        for (int i = 0; i < m; i++) {
            int[][] rows = new int[from.length][];
            for (int row = 0; row < rows.length; row++) {
                rows[row] = from[row].clone();
            }
            for (int j = 0; j < n; j++) {
                if (draws.draw() % 100 < p && rows.length > 0) {
                    int[] row = rows[draws.draw() % rows.length];
                    int col = draws.draw() % 3;
                    row[col] = draws.draw() % 10;
                }
                sum += rows.length + 2;
                for (int[] row : rows) {
                    sum += row[0] <= 4 && row[1] <= 6 && row[2] >= 2 ? 2 : 0;
                }
            }
        }
        return sum;
    }

    private static void drifts() {
        Check.says("DRIFT m times (1 to 5) n steps (1 to 30) from now on: in each a DRAW mod 100: is it below p (0 to 100), and has R rows, "
            + "a DRAW mod how many, a DRAW mod 3, a DRAW mod 10: that COL of that row is that number (CHANGE, if it is another one); then a RUN");
        int[] sizes = {0, 1, 2, 7, 12};
        for (int size : sizes) {
            StringBuilder base = new StringBuilder("base 9;s 1 1;s 2 2");
            int[][] rows = new int[size][];
            for (int i = 0; i < size; i++) {
                rows[i] = new int[] {i % 10, (3 * i + 1) % 10, (7 * i + 2) % 10};
                base.append(";r " + rows[i][0] + " " + rows[i][1] + " " + rows[i][2]);
            }
            int[][] asked = {{1, 1, 0}, {1, 1, 100}, {5, 30, 100}, {5, 30, 0}, {5, 30, 50}, {5, 1, 99}, {1, 30, 1}, {2, 17, 64}};
            int[] seeds = {0, 3, 2147483647};
            for (int[] a : asked) {
                for (int seed : seeds) {
                    BatchShare x = Check.with(base.toString(), "join a=d if a<=4 and b<=6 and c>=2");
                    x.seed(seed);
                    due(size + " rows, drift(" + a[0] + ", " + a[1] + ", " + a[2] + ", 0) from " + seed, x.drift(a[0], a[1], a[2], 0),
                        drifted(rows, seed, a[0], a[1], a[2]));
                }
            }
        }
    }

    private static void driftsBy(int m, int n, int p, boolean isFine) {
        BatchShare x = Check.with("base 9;r 1 1 1", "s");
        Check.holds("drift(" + m + ", " + n + ", " + p + ", 0) fine: " + isFine, x.drift(m, n, p, 0) == (isFine ? 0 : NONE));
        Check.holds("drift(" + m + ", " + n + ", " + p + ", 1) fine: " + isFine, x.drift(m, n, p, 1) == (isFine ? 0 : NONE));
        due("what 2", x.drift(m, n, p, 2), NONE);
        due("what -1", x.drift(m, n, p, -1), NONE);
    }

    private static void driftLimits() {
        Check.says("DRIFT m times (1 to 5) n steps (1 to 30)");
        int most = Integer.MAX_VALUE;
        int least = Integer.MIN_VALUE;
        int[][] fine = {{1, 1, 0}, {5, 1, 0}, {1, 30, 0}, {1, 1, 100}, {5, 30, 100}, {3, 15, 50}};
        int[][] wrong = {{0, 1, 0}, {6, 1, 0}, {1, 0, 0}, {1, 31, 0}, {1, 1, -1}, {1, 1, 101}, {-1, 1, 0}, {1, -1, 0}, {most, 1, 0}, {1, most, 0},
            {1, 1, most}, {least, 1, 0}, {1, least, 0}, {1, 1, least}};
        for (int[] a : fine) {
            driftsBy(a[0], a[1], a[2], true);
        }
        for (int[] a : wrong) {
            driftsBy(a[0], a[1], a[2], false);
        }
    }

    private static void driftStale() {
        Check.says("how many KEPT are STALE at the end, all together (nothing stays; x as it was)");
        BatchShare x = Check.with("base 50;r 5 5 5;s 1 1", "r", "s", "join a=d", "r if a<=8");
        x.keep(0);
        x.keep(1);
        x.keep(2);
        x.keep(3);
        due("all of R: three of four, each of five times", x.drift(5, 30, 100, 1), 15);
        due("none", x.drift(5, 30, 0, 1), 0);
        x.put(1, 3, 3, 0);
        due("two are STALE already, each time", x.drift(5, 1, 0, 1), 10);
        due("as it was", x.count(8) * 100 + x.count(7), 1 + 1 + (1 + 1 + 1) + 1);
        due("x", x.count(10), 0);
        BatchShare none = Check.with("base 50;r 5 5 5", "r");
        due("nothing KEPT", none.drift(5, 30, 100, 1), 0);
        due("no QUERIES", Check.with("base 50;r 5 5 5").drift(5, 30, 100, 0), 0);
    }

    private static void driftByKept() {
        Check.says("then a RUN: BATCH of all RUNS, together");
        BatchShare x = Check.with("base 50;r 5 5 5;r 5 5 6;s 1 1", "r if c=5", "s");
        due("nothing KEPT", x.drift(2, 3, 0, 0), 6 * (2 + 1));
        x.keep(0);
        due("by one KEPT", x.drift(2, 3, 0, 0), 6 * (1 + 1));
        x.strike(1);
        due("one STRUCK", x.drift(2, 3, 0, 0), 6);
        x.put(0, 5, 5, 5);
        due("STALE", x.drift(2, 3, 0, 0), 6 * 3);
    }

    private static void images() {
        Check.says("IMAGES 0 to 3: all but the QUERIES and the TAPE, as it is (what can be UNDONE, which are STRUCK, too)");
        BatchShare x = Check.busy();
        String then = Check.told(x);
        for (int k = 0; k < 4; k++) {
            due("image(" + k + ")", x.image(k), 1);
        }
        x.end(0);
        Check.tell(x, "base 1;r 1 1 1;s 1 1");
        due("another BASE", x.base(), 2);
        x.seed(1);
        Check.tell(x, "base 8;r 7 7 7");
        due("back", x.back(3), 1);
        Check.same("back(3)", then, x);
        BatchShare twin = Check.busy();
        for (int left = 6; left >= 0; left--) {
            due("what can be UNDONE", x.undo(), left);
            due("what can be UNDONE", twin.undo(), left);
        }
        due("no more", x.undo(), -2);
        Check.holds("all UNDONE", Check.told(twin).equals(Check.told(x)));
        BatchShare none = new BatchShare();
        none.image(0);
        Check.base(none, "base 9;r 1 1 1");
        Check.query(none, "r");
        none.strike(0);
        none.keep(0);
        due("to no BASE", none.back(0), 0);
        for (int what = 0; what < 12; what++) {
            due("count(" + what + ")", none.count(what), what == 3 ? 1 : 0);
        }
        due("no BASE", none.run(), NONE);
        due("no BASE", none.strike(0), NONE);
        due("nothing to be UNDONE", none.undo(), -2);
    }

    private static void imagesStay() {
        Check.says("gone back to, it is as it was");
        BatchShare x = Check.with("base 50;r 1 1 1;r 2 2 2", "r if a=1", "r");
        x.keep(0);
        x.run();
        x.image(1);
        String then = Check.told(x);
        for (int i = 0; i < 30; i++) {
            x.put(0, i % 10, 1, 1);
            x.remove(0, 0);
        }
        x.forget(0);
        due("back", x.back(1), 1);
        Check.same("after 61 ACTS", then, x);
        due("undo", x.undo(), 1);
        due("undo", x.undo(), 0);
        due("nothing KEPT", x.count(5), 0);
        due("back", x.back(1), 1);
        Check.same("after two were UNDONE", then, x);
        x.change(0, 0, 0, 9);
        x.strike(1);
        due("back", x.back(1), 1);
        Check.same("again", then, x);
    }

    private static void imageWithTwentyActs() {
        Check.says("what can be UNDONE");
        BatchShare x = Check.with("base 50;r 1 1 1", "r");
        for (int i = 0; i < 27; i++) {
            x.run();
        }
        due("image", x.image(0), 27);
        for (int i = 0; i < 5; i++) {
            x.run();
        }
        due("back", x.back(0), 27);
        due("twenty", x.count(9), 20);
        for (int left = 19; left >= 0; left--) {
            due("undo", x.undo(), left);
            due("TIME", x.count(8), 7 + left);
        }
        due("no more", x.undo(), -2);
        due("back", x.back(0), 27);
        x.run();
        due("twenty still", x.count(9), 20);
        for (int left = 19; left >= 0; left--) {
            due("undo", x.undo(), left);
        }
        due("the first went", x.count(8), 8);
    }

    private static void queriesSinceStay() {
        Check.says("(QUERIES stay; those told since are not STRUCK)");
        BatchShare x = Check.with("base 50;r 1 1 1", "r if a=1", "r");
        x.strike(0);
        x.image(0);
        x.strike(0);
        x.strike(1);
        due("told since", Check.query(x, "s"), 2);
        due("told since", Check.query(x, "join a=d"), 3);
        x.strike(2);
        x.strike(3);
        due("all but the first", x.count(4), 14);
        due("back", x.back(0), 0);
        due("QUERIES stay", x.count(3), 4);
        due("the first alone", x.count(4), 1);
        due("told since: not STRUCK", x.form(2, 20), 0);
        due("told since: not STRUCK", x.form(3, 20), 0);
        due("STRUCK", x.form(0, 20), 1);
        due("not STRUCK", x.form(1, 20), 0);
        due("undo", x.undo(), 0);
        due("none", x.count(4), 0);
        due("its FORM stays", x.form(3, 0), 2);
    }

    public static void main(String[] args) {
        askingChangesNothing();
        gains();
        greedyAboveNothing();
        greedyWithRoom();
        greedyOfSeveral();
        greedySixAtMost();
        bestAboveNothing();
        bestOfSeveral();
        onlyCandidatesOfNow();
        asManyCandidatesAsCanBe();
        marks();
        sharedScan();
        residues();
        draws();
        drifts();
        driftLimits();
        driftStale();
        driftByKept();
        images();
        imagesStay();
        imageWithTwentyActs();
        queriesSinceStay();
        Check.close("AskEdgesTest");
    }
}
