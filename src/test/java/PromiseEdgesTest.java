/** Promises 1 to 37, sentence by sentence: too small, too large, empty, full, and calls that are refused, by which nothing happens. */
public final class PromiseEdgesTest {
    private static final int NONE = BatchShare.NONE;
    private static final int LEAST = Integer.MIN_VALUE;
    private static final int MOST = Integer.MAX_VALUE;
    /** What no number of a row, a QUERY, a COL, or a WHAT ever is. */
    private static final int[] FAR = {LEAST, LEAST + 1, -1000, -3, 1000, 65536, MOST - 1, MOST};

    private static void due(String call, long got, long want) {
        Check.due(call, got, want);
    }

    private static void refused(String call, Check.Call on, int want) {
        Check.refused(call, Check::busy, on, want);
    }

    /** Each of FAR, and these besides. */
    private static int[] wrong(int... besides) {
        int[] all = java.util.Arrays.copyOf(besides, besides.length + FAR.length);
        System.arraycopy(FAR, 0, all, besides.length, FAR.length);
        return all;
    }

    private static BatchShare noBase() {
        BatchShare x = Check.with("", "r if a<=2", "join a=d");
        x.seed(3);
        x.image(1);
        Check.tell(x, "base 8;r 7 7 7");
        return x;
    }

    /** 12 rows of R, 8 of S, 8 QUERIES, 6 KEPT, 20 ACTS, 4 IMAGES, 400 bytes. */
    private static BatchShare full() {
        StringBuilder base = new StringBuilder("base 99");
        for (int i = 0; i < 12; i++) {
            base.append(";r " + i % 10 + " 1 1" + (i < 8 ? ";s " + i + " 1" : ""));
        }
        BatchShare x = Check.with(base.toString(), "r if a=0", "r if a=1", "r if a=2", "r if a=3", "r if a=4", "r if a=5", "r if a=6", "s");
        for (int c = 0; c < 6; c++) {
            x.keep(c);
        }
        for (int k = 0; k < 4; k++) {
            x.run();
            x.image(k);
        }
        for (int i = 0; i < 14; i++) {
            x.change(1, i % 8, 4, 2 + i / 8);
        }
        Check.tell(x, " ".repeat(399) + "x");
        return x;
    }

    private static void p1() {
        Check.says("`NONE = -1`: None.");
        due("NONE", NONE, -1);
        Check.says("No BASE, no QUERIES.");
        BatchShare x = new BatchShare();
        for (int what = 0; what < 12; what++) {
            due("count(" + what + ")", x.count(what), 0);
        }
        due("run", x.run(), NONE);
        due("put", x.put(0, 0, 0, 0), NONE);
        due("put", x.put(1, 0, 0, 0), NONE);
        due("drift", x.drift(1, 1, 0, 0), NONE);
        due("form", x.form(0, 0), -2);
        due("undo", x.undo(), -2);
        for (int k = 0; k < 4; k++) {
            due("back(" + k + ")", x.back(k), NONE);
        }
        BatchShare other = Check.busy();
        due("another object", new BatchShare().count(1), 0);
        due("the first stays", other.count(1), 5);
    }

    private static void p2() {
        Check.says("Twenty bytes come behind the TAPE, of each number the highest first: how many it has");
        BatchShare x = new BatchShare();
        for (int n = 20; n <= 400; n += 20) {
            due("feed", x.feed(MOST, LEAST, -1, 0, 1), n);
        }
        due("a full TAPE", x.feed(0, 0, 0, 0, 0), NONE);
        BatchShare y = new BatchShare();
        y.feed(0x62617365, 0x2036373b, 0x72203120, 0x3220333b, 0x73203420);
        y.feed(0x35ff80fe, 0, 0, 0, 0);
        y.end(21);
        due("the highest byte first", y.base(), 2);
        due("MEMORY", y.count(0), 67);
        due("e", y.cell(1, 0, 4), 5);
        Check.says("NONE, and none comes, if it would have more than 400");
        Check.refused("feed to 400 bytes", PromiseEdgesTest::full, z -> z.feed(1, 2, 3, 4, 5), NONE);
        for (int n = 0; n <= 400; n++) {
            BatchShare z = new BatchShare();
            for (int i = 0; i < 20; i++) {
                z.feed(0, 0, 0, 0, 0);
            }
            z.end(n);
            due("feed to " + n + " bytes", z.feed(0, 0, 0, 0, 0), n <= 380 ? n + 20 : NONE);
            due("bytes", z.count(11), n <= 380 ? n + 20 : n);
        }
    }

    private static void p3() {
        Check.says("The TAPE has its first n bytes alone: n");
        BatchShare x = new BatchShare();
        Check.tell(x, "base 12;r 1 2 3;r 4 5 6");
        due("all", x.end(23), 23);
        due("fewer", x.end(15), 15);
        due("base", x.base(), 1);
        due("none", x.end(0), 0);
        Check.tell(x, "base 12");
        due("none", x.end(0), 0);
        due("an empty text", x.base(), -2 - 1);
        x.feed(0x62617365, 0x20393939, 0, 0, 0);
        x.end(6);
        x.feed(0x3b722031, 0x20312031, 0x20202020, 0x20202020, 0x20202020);
        due("what comes then comes behind these", x.base(), 1);
        due("MEMORY", x.count(0), 9);
        String[] texts = {"r if a<=3", "r if a<33", "r show a,b", "rr", "r  x", "r if a<3 and b<3", "join a=d show a"};
        int[] ends = {7, 8, 8, 1, 2, 8, 8};
        int[] answers = {-2 - (1 + 8 * 7), 0, 0, 0, 0, 0, 0};
        for (int i = 0; i < texts.length; i++) {
            BatchShare cut = new BatchShare();
            Check.tell(cut, texts[i]);
            cut.end(ends[i]);
            due("what was behind " + ends[i] + " is no more: " + texts[i], cut.query(), answers[i]);
        }
        Check.says("NONE, and nothing happens, if it has not so many, or n is below 0");
        for (int n : wrong(-1, 15, 16, 400, 401)) {
            refused("end(" + n + ")", y -> y.end(n), NONE);
        }
        for (int n : wrong(-1, 401)) {
            Check.refused("end(" + n + ")", PromiseEdgesTest::full, y -> y.end(n), NONE);
        }
        due("end(1) of none", new BatchShare().end(1), NONE);
        due("end(0) of none", new BatchShare().end(0), 0);
    }

    private static void p4() {
        Check.says("The TAPE, which is empty then, is the BASE in place of the one there was (nothing KEPT, STRUCK, SPENT, TIME 0, nothing to be UNDONE; "
            + "QUERIES and x stay): how many rows R and S have");
        BatchShare x = full();
        Check.tell(x, "base 0");
        due("no rows", x.base(), 0);
        int[] counts = {0, 0, 0, 8, 0, 0, 0, 0, 0, 0, 0, 0};
        for (int what = 0; what < counts.length; what++) {
            due("count(" + what + ")", x.count(what), counts[what]);
        }
        due("nothing to be UNDONE", x.undo(), -2);
        BatchShare y = Check.busy();
        due("base", y.base(), 1);
        int[] more = {8, 1, 0, 5, 0, 0, 0, 0, 0, 0, 77, 0};
        for (int what = 0; what < more.length; what++) {
            due("count(" + what + ")", y.count(what), more[what]);
        }
        due("rows of before", y.cell(0, 1, 0), NONE);
        due("rows of before", y.cell(1, 0, 3), NONE);
        due("as many as there can be", Check.base(y, "base 1" + ";r 1 1 1".repeat(12) + ";s 1 1".repeat(8)), 20);
        Check.says("-2 - its FAULT, and all stays");
        String[] texts = {"", "base", "base 100", "base 1;r 1 1", "base 1;r 9 9 9;s 9 9;q", "base 1" + ";s 1 1".repeat(9), "r 1 1 1"};
        for (String text : texts) {
            Check.Maker emptied = () -> {
                BatchShare z = Check.busy();
                z.end(0);
                return z;
            };
            Check.leavesAll("base of '" + text + "'", emptied, z -> Check.base(z, text));
        }
        BatchShare z = Check.busy();
        due("a FAULT", Check.base(z, "base 1;"), -2 - (1 + 8 * 7));
        due("the TAPE is empty then", z.count(11), 0);
    }

    private static void p5() {
        Check.says("The TAPE, which is empty then, is a QUERY: its number; -2 - its FAULT");
        BatchShare x = new BatchShare();
        for (int q = 0; q < 8; q++) {
            due("a FAULT", Check.query(x, "r if a<0 show a,d"), -2 - (1 + 8 * 16 + 2));
            due("the TAPE is empty then", x.count(11), 0);
            due("no QUERY by that", x.count(3), q);
            due("its number", Check.query(x, "s if d=" + q), q);
            due("the TAPE is empty then", x.count(11), 0);
        }
        due("what a FAULT left behind is nowhere", x.form(7, 19) * 100 + x.form(7, 13) * 10 + x.form(7, 9), 27);
        BatchShare after = new BatchShare();
        Check.query(after, "join a=d if a=5 and b=5 and c=5 and d=5 and e=5 show e x");
        Check.query(after, "join b=e if a<0 x");
        due("its number", Check.query(after, "r"), 0);
        int[] form = {0, NONE, NONE, 0, 9, 0, 9, 0, 9, 0, 9, 0, 9, 3, 0, 1, 2, NONE, NONE, 0, 0};
        for (int what = 0; what < form.length; what++) {
            due("what a FAULT left behind is nowhere: form(0, " + what + ")", after.form(0, what), form[what]);
        }
        Check.says("NONE, and nothing happens: there are 8");
        Check.refused("query", PromiseEdgesTest::full, y -> y.query(), NONE);
        Check.Maker fine = () -> {
            BatchShare y = full();
            Check.tell(y, "r");
            return y;
        };
        Check.refused("query", fine, y -> y.query(), NONE);
        BatchShare y = fine.make();
        y.query();
        due("the TAPE stays", y.count(11), 1);
    }

    private static void p6() {
        Check.says("NONE without these (col 0 to 2, 3 to 4)");
        BatchShare x = full();
        for (int col = -1; col <= 5; col++) {
            Check.holds("R, col " + col, x.cell(0, 11, col) >= 0 == (col >= 0 && col <= 2));
            Check.holds("S, col " + col, x.cell(1, 7, col) >= 0 == (col == 3 || col == 4));
        }
        due("no row 12", x.cell(0, 12, 0), NONE);
        due("no row 8", x.cell(1, 8, 3), NONE);
        for (int n : wrong(-1, 12)) {
            due("row " + n, x.cell(0, n, 0), NONE);
            due("row " + n, x.cell(1, n, 3), NONE);
        }
        for (int n : wrong(-1, 5)) {
            due("col " + n, x.cell(0, 0, n), NONE);
            due("col " + n, x.cell(1, 0, n), NONE);
        }
        for (int n : wrong(-1, 2)) {
            due("table " + n, x.cell(n, 0, 0), NONE);
            due("table " + n, x.cell(n, 0, 3), NONE);
        }
        due("without a BASE", noBase().cell(0, 0, 0), NONE);
    }

    private static void p7() {
        Check.says("14 to 18: these (NONE: not so many), 19: 1 if it is VOID, else 0, 20: 1 if it is STRUCK, else 0. -2 without these.");
        BatchShare x = full();
        for (int n : wrong(-1, 21)) {
            due("what " + n, x.form(0, n), -2);
        }
        for (int n : wrong(-1, 8)) {
            due("QUERY " + n, x.form(n, 0), -2);
        }
        for (int what = 0; what <= 20; what++) {
            Check.holds("what " + what, x.form(7, what) >= NONE);
        }
        due("QUERY 7", x.form(7, 0), 1);
        due("not so many", x.form(7, 16), NONE);
        due("not so many", x.form(7, 18), NONE);
        due("no QUERIES", new BatchShare().form(0, 20), -2);
        due("without a BASE", noBase().form(1, 20), 0);
        due("no QUERY 2", noBase().form(2, 20), -2);
    }

    private static void p8to11() {
        BatchShare x = full();
        int[] none = wrong(-1, 8);
        Check.says("DIGEST of a QUERY; NONE without it.");
        for (int n : none) {
            due("digest(" + n + ")", x.digest(n), NONE);
        }
        Check.holds("digest(7)", x.digest(7) >= 0 && x.digest(7) < 1000003);
        due("no QUERIES", new BatchShare().digest(0), NONE);
        Check.says("The first QUERY that is ALIKE (it itself, if none is ahead of it); NONE without it.");
        for (int n : none) {
            due("alike(" + n + ")", x.alike(n), NONE);
        }
        for (int q = 0; q < 8; q++) {
            due("it itself", x.alike(q), q);
        }
        BatchShare twice = Check.with("", "r", "s", "r", "s", "r", "s", "r", "s");
        due("the first of four", twice.alike(6), 0);
        due("the first of four", twice.alike(7), 1);
        Check.says("What a QUERY COSTS alone, with nothing KEPT (STRUCK ones, too); NONE without it.");
        for (int n : none) {
            due("alone(" + n + ")", x.alone(n), NONE);
        }
        due("with nothing KEPT", x.alone(0), 12);
        x.strike(0);
        due("STRUCK", x.alone(0), 12);
        due("VOID", Check.with("base 1;r 1 1 1", "r if a<0").alone(0), 0);
        due("the first that is asked for", Check.with("base 1;r 1 1 1;r 2 2 2;s 3 3", "join a=d").alone(0), 2 + 1 + 2);
        x.remove(0, 0);
        due("rows as they are now", x.alone(0), 11);
        due("without a BASE", noBase().alone(1), 0);
    }

    private static void p10() {
        Check.says("ANSWER of a QUERY (STRUCK ones, too) row NONE: how many rows (col is not asked for), 0 and on: the col-th COL shown of that row. "
            + "-2 without these (col from 0).");
        BatchShare x = full();
        for (int n : FAR) {
            due("col is not asked for", x.answer(7, NONE, n), 8);
            due("col " + n, x.answer(7, 0, n), -2);
            due("row " + n, x.answer(7, n, 0), -2);
            due("QUERY " + n, x.answer(n, NONE, 0), -2);
            due("QUERY " + n, x.answer(n, 0, 0), -2);
        }
        due("row -2", x.answer(7, -2, 0), -2);
        due("row 8", x.answer(7, 8, 0), -2);
        due("row 7", x.answer(7, 7, 0), 7);
        due("col 2", x.answer(7, 7, 2), -2);
        due("col -1", x.answer(7, 7, -1), -2);
        due("QUERY 8", x.answer(8, NONE, 0), -2);
        due("QUERY -1", x.answer(-1, NONE, 0), -2);
        x.strike(7);
        due("STRUCK", x.answer(7, NONE, 0), 8);
        due("STRUCK", x.answer(7, 7, 0), 7);
        due("VOID", Check.with("base 1;r 1 1 1", "r if a<0").answer(0, NONE, 0), 0);
        due("VOID", Check.with("base 1;r 1 1 1", "r if a<0").answer(0, 0, 0), -2);
        due("five COLS", Check.with("base 1;r 1 2 3", "r show c,c,c,c,b").answer(0, 0, 4), 2);
        due("no sixth", Check.with("base 1;r 1 2 3", "r show c,c,c,c,b").answer(0, 0, 5), -2);
        due("without a BASE", noBase().answer(0, NONE, 0), 0);
        due("without a BASE", noBase().answer(0, 0, 0), -2);
    }

    private static void p12to16() {
        BatchShare x = full();
        int all = x.candidates();
        Check.says("How many CANDIDATES there are.");
        due("7 and 1 PARTS, 21 WIDE ones", all, 8 + 21);
        due("none", new BatchShare().candidates(), 0);
        due("without a BASE", noBase().candidates(), 4);
        Check.says("13: ROWS, 14: MAKE. -2 without these.");
        for (int n : wrong(-1, 15)) {
            due("what " + n, x.candidate(0, n), -2);
        }
        for (int n : wrong(-1, all)) {
            due("candidate(" + n + ", 0)", x.candidate(n, 0), -2);
            due("candidate(" + n + ", 14)", x.candidate(n, 14), -2);
        }
        due("the last", x.candidate(all - 1, 0), 0);
        due("the last: a 5 to 6", x.candidate(all - 1, 3) * 10 + x.candidate(all - 1, 4), 56);
        Check.says("GAIN, and 10000; NONE without that CANDIDATE.");
        for (int n : wrong(-1, all)) {
            due("gain(" + n + ")", x.gain(n), NONE);
        }
        due("the last", x.gain(all - 1), 10000 + (1 - 1) + (12 - 2) - 12);
        due("without a BASE", noBase().gain(0), 10000);
        Check.says("2 to 7: the first to the sixth (NONE: not so many). -2 for others.");
        for (int n : wrong(-1, 8)) {
            due("greedy(" + n + ")", x.greedy(n), -2);
        }
        due("without a BASE", noBase().greedy(0), 0);
        due("without a BASE", noBase().greedy(1), 0);
        due("without a BASE", noBase().greedy(7), NONE);
        Check.says("BEST what 0: GAIN (0: none), 1: the lesser or only one, 2: the greater one (NONE: none). -2 for others.");
        for (int n : wrong(-1, 3)) {
            due("best(" + n + ")", x.best(n), -2);
        }
        due("without a BASE", noBase().best(0), 0);
        due("without a BASE", noBase().best(1), NONE);
        due("without a BASE", noBase().best(2), NONE);
    }

    private static void p17() {
        Check.says("NONE, and nothing happens, without these, a BASE, or room.");
        for (int n : wrong(-1, 2)) {
            refused("put(" + n + ", 1, 1, 1)", x -> x.put(n, 1, 1, 1), NONE);
        }
        for (int n : wrong(-1, 10)) {
            refused("put(0, " + n + ", 1, 1)", x -> x.put(0, n, 1, 1), NONE);
            refused("put(0, 1, " + n + ", 1)", x -> x.put(0, 1, n, 1), NONE);
            refused("put(0, 1, 1, " + n + ")", x -> x.put(0, 1, 1, n), NONE);
            refused("put(1, " + n + ", 1, 1)", x -> x.put(1, n, 1, 1), NONE);
            refused("put(1, 1, " + n + ", 1)", x -> x.put(1, 1, n, 1), NONE);
        }
        Check.refused("no room in R", PromiseEdgesTest::full, x -> x.put(0, 1, 1, 1), NONE);
        Check.refused("no room in S", PromiseEdgesTest::full, x -> x.put(1, 1, 1, 1), NONE);
        Check.refused("without a BASE", PromiseEdgesTest::noBase, x -> x.put(0, 1, 1, 1), NONE);
        Check.refused("without a BASE", PromiseEdgesTest::noBase, x -> x.put(1, 1, 1, 1), NONE);
        Check.says("(c is not asked for, if table is 1)");
        for (int n : wrong(-1, 10)) {
            due("put(1, 0, 9, " + n + ")", Check.busy().put(1, 0, 9, n), 4);
        }
        due("0 and 9", Check.busy().put(0, 0, 9, 0), 6);
        due("9 and 0", Check.busy().put(0, 9, 0, 9), 6);
    }

    private static void p18() {
        Check.says("REMOVE: how many rows that table has then; NONE, and nothing happens, without it.");
        for (int n : wrong(-1, 2)) {
            refused("remove(" + n + ", 0)", x -> x.remove(n, 0), NONE);
        }
        for (int n : wrong(-1, 5)) {
            refused("remove(0, " + n + ")", x -> x.remove(0, n), NONE);
        }
        for (int n : wrong(-1, 3)) {
            refused("remove(1, " + n + ")", x -> x.remove(1, n), NONE);
        }
        Check.refused("row 12", PromiseEdgesTest::full, x -> x.remove(0, 12), NONE);
        Check.refused("row 8", PromiseEdgesTest::full, x -> x.remove(1, 8), NONE);
        Check.refused("without a BASE", PromiseEdgesTest::noBase, x -> x.remove(0, 0), NONE);
        due("row 11", full().remove(0, 11), 11);
        due("row 7", full().remove(1, 7), 7);
    }

    private static void p19() {
        Check.says("CHANGE: which number it was; NONE, and nothing happens, without these (another number 0 to 9).");
        refused("the same number", x -> x.change(0, 0, 0, 1), NONE);
        refused("the same number", x -> x.change(1, 2, 4, 0), NONE);
        for (int n : wrong(-1, 10)) {
            refused("change(0, 0, 0, " + n + ")", x -> x.change(0, 0, 0, n), NONE);
            refused("change(1, 0, 4, " + n + ")", x -> x.change(1, 0, 4, n), NONE);
        }
        for (int n : wrong(-1, 5)) {
            refused("change(0, " + n + ", 0, 8)", x -> x.change(0, n, 0, 8), NONE);
            refused("change(0, 0, " + n + ", 8)", x -> x.change(0, 0, n, 8), NONE);
            refused("change(1, 0, " + n + ", 8)", x -> x.change(1, 0, n, 8), NONE);
        }
        refused("col 3 is not of R", x -> x.change(0, 0, 3, 8), NONE);
        refused("col 2 is not of S", x -> x.change(1, 0, 2, 8), NONE);
        refused("no row 3", x -> x.change(1, 3, 3, 8), NONE);
        for (int n : wrong(-1, 2)) {
            refused("change(" + n + ", 0, 0, 8)", x -> x.change(n, 0, 0, 8), NONE);
        }
        Check.refused("without a BASE", PromiseEdgesTest::noBase, x -> x.change(0, 0, 0, 8), NONE);
        due("0", Check.busy().change(0, 4, 2, 0), 2);
        due("9", Check.busy().change(1, 2, 4, 9), 0);
    }

    private static void p20() {
        Check.says("STRIKE: how many QUERIES are STRUCK then; NONE, and nothing happens, without it, or a BASE.");
        for (int n : wrong(-1, 5, 7, 8, 31, 32, 33)) {
            refused("strike(" + n + ")", x -> x.strike(n), NONE);
        }
        Check.refused("strike(8)", PromiseEdgesTest::full, x -> x.strike(8), NONE);
        Check.refused("without a BASE", PromiseEdgesTest::noBase, x -> x.strike(0), NONE);
        due("a VOID one", Check.busy().strike(3), 3);
        due("one that was", Check.busy().strike(4), 1);
        due("QUERY 7", full().strike(7), 1);
    }

    private static void p21() {
        Check.says("KEEP: how many were FORGOTTEN by it; NONE, and nothing happens, without these, or a BASE.");
        int all = Check.busy().candidates();
        for (int n : wrong(-1, all)) {
            refused("keep(" + n + ")", x -> x.keep(n), NONE);
        }
        refused("is KEPT, STALE", x -> x.keep(0), NONE);
        refused("is KEPT, STALE", x -> x.keep(2), NONE);
        Check.refused("is KEPT", PromiseEdgesTest::full, x -> x.keep(5), NONE);
        Check.refused("without a BASE", PromiseEdgesTest::noBase, x -> x.keep(0), NONE);
        Check.refused("more ROWS than MEMORY", () -> Check.with("base 1;r 1 1 1;r 1 2 3", "r"), x -> x.keep(0), NONE);
        due("none", Check.with("base 2;r 1 1 1;r 1 2 3", "r").keep(0), 0);
        due("one", full().keep(6), 1);
        due("the last", full().keep(full().candidates() - 1), 1);
        // Six are KEPT, with 11 ROWS: then 96 ROWS more have room without any of them.
        BatchShare x = Check.with("base 96" + ";r 1 1 1".repeat(12) + ";s 1 1".repeat(8), "r if a=9", "r if b=9", "r if c=9", "r if a=8", "r if b=8",
            "join a=d");
        for (int c = 0; c < 5; c++) {
            x.keep(c);
        }
        due("R", x.keep(5), 0);
        due("six, and all but the last have no ROWS", x.count(5), 6);
        due("all go", x.keep(7), 6);
        due("one KEPT", x.count(5), 1);
        due("just MEMORY", x.count(6), 96);
    }

    private static void p22and23() {
        Check.says("FORGET: how many are KEPT then; NONE, and nothing happens, without it.");
        for (int n : wrong(-1, 3)) {
            refused("forget(" + n + ")", x -> x.forget(n), NONE);
            refused("refresh(" + n + ")", x -> x.refresh(n), NONE);
        }
        Check.refused("forget(6)", PromiseEdgesTest::full, x -> x.forget(6), NONE);
        Check.refused("without a BASE", PromiseEdgesTest::noBase, x -> x.forget(0), NONE);
        due("forget(5)", full().forget(5), 5);
        due("forget(2)", Check.busy().forget(2), 2);
        Check.says("REFRESH: ROWS then; -2: it is FORGOTTEN; NONE, and nothing happens, without one that is STALE.");
        refused("not STALE", x -> x.refresh(1), NONE);
        Check.refused("none is STALE", PromiseEdgesTest::full, x -> x.refresh(5), NONE);
        Check.refused("without a BASE", PromiseEdgesTest::noBase, x -> x.refresh(0), NONE);
        due("3 ROWS, with 2 and 3", Check.busy().refresh(0), 3);
        due("5 ROWS, with 2 and 2 just MEMORY", Check.busy().refresh(2), 5);
        BatchShare x = Check.busy();
        x.refresh(0);
        due("5 ROWS, with 3 and 2 too many", x.refresh(2), -2);
        due("FORGOTTEN", x.count(5), 2);
    }

    private static void p24and25() {
        Check.says("RUN: BATCH; NONE, and nothing happens, without a BASE.");
        Check.refused("run", PromiseEdgesTest::noBase, x -> x.run(), NONE);
        due("a BASE without rows", Check.with("base 0", "r", "join a=d").run(), 0);
        Check.says("The last ACT is UNDONE: how many more can be; -2, and nothing happens: none can.");
        Check.refused("undo", PromiseEdgesTest::noBase, x -> x.undo(), -2);
        Check.refused("undo", BatchShare::new, x -> x.undo(), -2);
        Check.Maker undone = () -> {
            BatchShare x = Check.busy();
            for (int i = 0; i < 7; i++) {
                x.undo();
            }
            return x;
        };
        Check.refused("undo", undone, x -> x.undo(), -2);
        Check.Maker all = () -> {
            BatchShare x = full();
            for (int i = 0; i < 20; i++) {
                x.undo();
            }
            return x;
        };
        due("the first ACTS stay", all.make().count(5), 4);
        Check.refused("undo", all, x -> x.undo(), -2);
        due("how many more", full().undo(), 19);
    }

    private static void p26to29() {
        BatchShare x = full();
        Check.says("13: ROWS, 14: USED, 15: 1 if it is STALE, else 0. -2 without these.");
        for (int n : wrong(-1, 16)) {
            due("kept(0, " + n + ")", x.kept(0, n), -2);
        }
        for (int n : wrong(-1, 6)) {
            due("kept(" + n + ", 0)", x.kept(n, 0), -2);
        }
        due("the sixth", x.kept(5, 3), 5);
        due("USED", x.kept(5, 14), 4);
        due("none", noBase().kept(0, 0), -2);
        Check.says("BATCH (0 without a BASE).");
        due("batch", noBase().batch(), 0);
        due("no QUERIES", new BatchShare().batch(), 0);
        Check.says("What a QUERY (not STRUCK) COSTS now; NONE without these.");
        for (int n : wrong(-1, 8)) {
            due("costs(" + n + ")", x.costs(n), NONE);
        }
        due("costs(7)", x.costs(7), 8);
        due("STRUCK", Check.busy().costs(1), NONE);
        due("STRUCK", Check.busy().costs(4), NONE);
        due("VOID", Check.busy().costs(3), 0);
        due("without a BASE", noBase().costs(0), 0);
        Check.says("Which KEPT one SERVES a QUERY (not STRUCK) by kind 0, 1 or 2 (-2: none, or it has no such PART); NONE without these.");
        for (int n : wrong(-1, 8)) {
            due("serves(" + n + ", 0)", x.serves(n, 0), NONE);
        }
        for (int n : wrong(-1, 3)) {
            due("serves(0, " + n + ")", x.serves(0, n), NONE);
        }
        due("the sixth", x.serves(5, 0), 5);
        due("none", x.serves(6, 0), -2);
        due("no such PART", x.serves(5, 1), -2);
        due("no such PART", x.serves(5, 2), -2);
        due("STRUCK", Check.busy().serves(1, 1), NONE);
        due("VOID", Check.busy().serves(3, 0), -2);
        due("without a BASE", noBase().serves(0, 0), -2);
    }

    private static void p30to32() {
        BatchShare x = full();
        Check.says("MARKS of a row; NONE without it.");
        for (int n : wrong(-1, 12)) {
            due("marks(0, " + n + ")", x.marks(0, n), NONE);
        }
        for (int n : wrong(-1, 8)) {
            due("marks(1, " + n + ")", x.marks(1, n), NONE);
        }
        for (int n : wrong(-1, 2)) {
            due("marks(" + n + ", 0)", x.marks(n, 0), NONE);
        }
        due("row 11", x.marks(0, 11), 2);
        due("row 7", x.marks(1, 7), 128);
        due("without a BASE", noBase().marks(0, 0), NONE);
        Check.says("SHARED.");
        due("both tables", x.shared(), 20);
        due("without a BASE", noBase().shared(), 0);
        Check.says("RESIDUE; -2: it is STALE, or does not HOLD a PART of it; NONE without these (a QUERY that is not STRUCK).");
        for (int n : wrong(-1, 8)) {
            due("residue(" + n + ", 0)", x.residue(n, 0), NONE);
        }
        for (int n : wrong(-1, 6)) {
            due("residue(0, " + n + ")", x.residue(0, n), NONE);
        }
        due("the sixth", x.residue(5, 5), 0);
        due("does not HOLD it", x.residue(4, 5), -2);
        due("STALE", Check.busy().residue(0, 0), -2);
        due("STRUCK", Check.busy().residue(1, 1), NONE);
        due("STRUCK, and there is no such KEPT one", Check.busy().residue(1, 3), NONE);
        due("VOID", Check.busy().residue(3, 1), -2);
        due("of the join", Check.busy().residue(2, 1), -2);
    }

    private static void p33and34() {
        Check.says("DRIFT what 0: BATCH, 1: STALE ones. NONE without these, or a BASE.");
        for (int n : wrong(-1, 2)) {
            due("drift(1, 1, 0, " + n + ")", Check.busy().drift(1, 1, 0, n), NONE);
        }
        due("without a BASE", noBase().drift(1, 1, 0, 0), NONE);
        due("without a BASE", noBase().drift(1, 1, 0, 1), NONE);
        Check.says("x becomes a number: what it was; NONE, and nothing happens, below 0.");
        int[] below = {-1, -2, LEAST, LEAST + 1};
        for (int n : below) {
            refused("seed(" + n + ")", x -> x.seed(n), NONE);
        }
        BatchShare x = new BatchShare();
        due("seed(most)", x.seed(MOST), 0);
        due("seed(0)", x.seed(0), MOST);
        due("seed(1)", x.seed(1), 0);
        due("x", x.count(10), 1);
    }

    private static void p35() {
        Check.says("NONE for others (0 without a BASE for 0 to 2, 4 to 8).");
        BatchShare x = full();
        for (int n : wrong(-1, 12)) {
            due("count(" + n + ")", x.count(n), NONE);
        }
        int[] counts = {99, 12, 8, 8, 0, 6, 8, 6 * 12 + 4 * (2 + 2 + 1 + 1 + 1 + 1 + 12 + 8), 4, 20, 0, 400};
        for (int what = 0; what < counts.length; what++) {
            due("count(" + what + ")", x.count(what), counts[what]);
        }
        int[] without = {0, 0, 0, 2, 0, 0, 0, 0, 0, 0, 3, 14};
        for (int what = 0; what < without.length; what++) {
            due("count(" + what + ") without a BASE", noBase().count(what), without[what]);
        }
    }

    private static void p36and37() {
        Check.says("An IMAGE is made: TIME (0 without a BASE); NONE without it.");
        for (int n : wrong(-1, 4)) {
            refused("image(" + n + ")", x -> x.image(n), NONE);
            refused("back(" + n + ")", x -> x.back(n), NONE);
        }
        for (int k = 0; k < 4; k++) {
            due("image(" + k + ")", full().image(k), 4);
            due("without a BASE", noBase().image(k), 0);
        }
        Check.says("All is as in an IMAGE: TIME (0 without a BASE); NONE, and nothing happens, if it was never made, or without it.");
        refused("back(1)", x -> x.back(1), NONE);
        refused("back(3)", x -> x.back(3), NONE);
        Check.refused("back(0)", BatchShare::new, x -> x.back(0), NONE);
        for (int k = 0; k < 4; k++) {
            BatchShare x = full();
            due("back(" + k + ")", x.back(k), k + 1);
            due("TIME", x.count(8), k + 1);
            due("ACTS", x.count(9), 7 + k);
        }
        due("without a BASE", noBase().back(1), 0);
        due("before all ACTS", Check.busy().back(2), 0);
    }

    /** 6 calls for the BASE and a QUERY, 505 RUNS, and one more. */
    private static void p512() {
        Check.says("An object is used for at most 512 calls after it has been made");
        BatchShare x = new BatchShare();
        x.feed(0x62617365, 0x20393b72, 0x20312031, 0x20310000, 0);
        x.end(14);
        x.base();
        x.feed(0x72000000, 0, 0, 0, 0);
        x.end(1);
        x.query();
        for (int time = 1; time <= 505; time++) {
            due("run " + time, x.run(), 1);
        }
        due("the 512th call", x.count(8), 505);
    }

    public static void main(String[] args) {
        p1();
        p2();
        p3();
        p4();
        p5();
        p6();
        p7();
        p8to11();
        p10();
        p12to16();
        p17();
        p18();
        p19();
        p20();
        p21();
        p22and23();
        p24and25();
        p26to29();
        p30to32();
        p33and34();
        p35();
        p36and37();
        p512();
        Check.close("PromiseEdgesTest");
    }
}
