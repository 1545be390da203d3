/** Each promise of the document by itself, with answers that were worked out by hand. */
public final class PromisesTest {
    private static final int NONE = BatchShare.NONE;
    private static final String BASE = "base 30;r 1 2 3;r 2 5 3;r 4 4 0;r 6 5 9;s 1 7;s 2 8;s 2 0";
    private static final String[] QUERIES = {"r if a<=2", "s if e>=7 show e", "join a=d if a<3 show b,e", "r if b>5 and b<5"};

    /** Two QUERIES want a = 0, two d <= 1, two a PART each of which one holds the other. */
    private static final String ROWS_OF_PAIRS = ";r 0 0 0;r 1 1 1;r 2 2 2;r 3 3 3;r 4 4 4;r 5 5 5;s 0 0;s 1 1;s 2 2;s 3 3";
    private static final String[] PAIRS = {"r if a=0", "r if a=0 show b", "s if d<=1", "s if d<=1 show e", "r if a>=4", "r if a=5 show c"};

    /** Each row of R is wanted by one QUERY alone. */
    private static final String SEVEN_ROWS = ";r 0 0 0;r 1 0 0;r 2 0 0;r 3 0 0;r 4 0 0;r 5 0 0;r 6 0 0";
    private static final String[] SEVEN = {"r if a=0", "r if a=1", "r if a=2", "r if a=3", "r if a=4", "r if a=5", "r if a=6"};

    private static BatchShare small() {
        return Check.with(BASE, QUERIES);
    }

    private static BatchShare pairs(int memory) {
        return Check.with("base " + memory + ROWS_OF_PAIRS, PAIRS);
    }

    private static void due(String call, long got, long want) {
        Check.due(call, got, want);
    }

    private static String all(BatchShare x) {
        return Check.told(x);
    }

    private static void same(String call, String before, BatchShare x) {
        Check.same(call, before, x);
    }

    private static void p1newObject() {
        BatchShare x = new BatchShare();
        for (int what = 0; what < 12; what++) {
            due("p1 count(" + what + ")", x.count(what), 0);
        }
        due("p1 NONE", NONE, -1);
        due("p1 cell", x.cell(0, 0, 0), NONE);
        due("p1 form", x.form(0, 0), -2);
        due("p1 candidates", x.candidates(), 0);
        due("p1 kept", x.kept(0, 0), -2);
        due("p1 undo", x.undo(), -2);
        due("p1 back", x.back(0), NONE);
    }

    private static void p2feed() {
        BatchShare x = new BatchShare();
        due("p2 feed", x.feed(0x62617365, 0x20330000, 0, 0, 0), 20);
        due("p2 end", x.end(6), 6);
        due("p2 the highest byte first", x.base(), 0);
        due("p2 MEMORY", x.count(0), 3);
        for (int i = 1; i <= 20; i++) {
            due("p2 feed " + i, x.feed(0x20202020, 0x20202020, 0x20202020, 0x20202020, 0x20202020), 20 * i);
        }
        due("p2 feed 21", x.feed(1, 2, 3, 4, 5), NONE);
        due("p2 400 bytes", x.count(11), 400);
        due("p2 none came", x.base(), -2 - (1 + 8 * 400));
        x.feed(0, 0, 0, 0, 0);
        x.end(1);
        for (int i = 0; i < 19; i++) {
            x.feed(0, 0, 0, 0, 0);
        }
        due("p2 381 bytes", x.count(11), 381);
        due("p2 401 were too many", x.feed(0, 0, 0, 0, 0), NONE);
        due("p2 still 381", x.count(11), 381);
        due("p2 bytes above 127", Check.base(new BatchShare(), "base 1\u00e9"), -2 - (1 + 8 * 6));
        BatchShare y = new BatchShare();
        y.feed(0x62617365, 0x20313b72, 0x20312032, 0x20333b73, 0x20342035);
        due("p2 all five numbers", y.base(), 2);
        due("p2 the last byte", y.cell(1, 0, 4), 5);
    }

    private static void p3end() {
        BatchShare x = new BatchShare();
        x.feed(0, 0, 0, 0, 0);
        due("p3 end(21)", x.end(21), NONE);
        due("p3 end(-1)", x.end(-1), NONE);
        due("p3 end(least)", x.end(Integer.MIN_VALUE), NONE);
        due("p3 nothing happened", x.count(11), 20);
        due("p3 end(20)", x.end(20), 20);
        due("p3 end(7)", x.end(7), 7);
        due("p3 count", x.count(11), 7);
        due("p3 end(8)", x.end(8), NONE);
        due("p3 end(0)", x.end(0), 0);
        due("p3 count", x.count(11), 0);
        Check.tell(x, "base 12;r 1 1 1");
        x.end(6);
        due("p3 what was behind is no more", x.base(), 0);
        due("p3 what was behind is no more", x.count(0), 1);
        Check.tell(x, "r if a<=3");
        x.end(7);
        due("p3 what was behind is no more", x.query(), -2 - (1 + 8 * 7));
    }

    private static void p4base() {
        BatchShare x = small();
        x.seed(77);
        x.keep(0);
        x.strike(1);
        x.run();
        x.image(0);
        due("p4 fault", Check.base(x, "base 1;r 1 1"), -2 - (1 + 8 * 12));
        due("p4 the TAPE is empty then", x.count(11), 0);
        due("p4 rows stay", x.count(1), 4);
        due("p4 KEPT stays", x.count(5), 1);
        due("p4 STRUCK stays", x.count(4), 2);
        due("p4 ACTS stay", x.count(9), 3);
        x.drift(1, 3, 100, 0);
        due("p4 base", Check.base(x, "base 8;r 1 1 1;s 2 2;r 3 3 3"), 3);
        int[] counts = {8, 2, 1, 4, 0, 0, 0, 0, 0, 0, 77, 0};
        for (int what = 0; what < counts.length; what++) {
            due("p4 count(" + what + ")", x.count(what), counts[what]);
        }
        due("p4 rows in the order told", x.cell(0, 1, 0), 3);
        due("p4 nothing to be UNDONE", x.undo(), -2);
        due("p4 IMAGES stay", x.back(0), 1);
        due("p4 12 and 8 rows", Check.base(x, "base 99" + ";r 9 9 9".repeat(12) + ";s 9 9".repeat(8)), 20);
        due("p4 MEMORY 99", x.count(0), 99);
    }

    private static void p5query() {
        BatchShare x = new BatchShare();
        due("p5 fault", Check.query(x, "r if a<"), -2 - (1 + 8 * 7));
        due("p5 the TAPE is empty then", x.count(11), 0);
        due("p5 none", x.count(3), 0);
        for (int q = 0; q < 8; q++) {
            due("p5 query " + q, Check.query(x, "r if a=" + q), q);
            due("p5 the TAPE is empty then", x.count(11), 0);
        }
        due("p5 a ninth", Check.query(x, "r if a=9"), NONE);
        due("p5 nothing happens: the TAPE stays", x.count(11), 8);
        due("p5 a ninth with a fault", Check.query(x, "q"), NONE);
        due("p5 the TAPE stays", x.count(11), 1);
        due("p5 eight", x.count(3), 8);
        due("p5 the first is as it was", x.form(0, 4), 0);
        due("p5 the last is as it was", x.form(7, 3), 7);
        BatchShare y = new BatchShare();
        Check.query(y, "join a=d if a<3 and e>9");
        Check.query(y, "s show e if e>9 x");
        due("p5 a QUERY behind a faulty one", Check.query(y, "r"), 1);
        int[] form = {0, NONE, NONE, 0, 9, 0, 9, 0, 9, 0, 9, 0, 9, 3, 0, 1, 2, NONE, NONE, 0, 0};
        for (int what = 0; what < form.length; what++) {
            due("p5 form(1, " + what + ")", y.form(1, what), form[what]);
        }
    }

    private static void p6cell() {
        BatchShare x = small();
        due("p6 cell", x.cell(0, 0, 0), 1);
        due("p6 cell", x.cell(0, 1, 1), 5);
        due("p6 cell", x.cell(0, 3, 2), 9);
        due("p6 cell", x.cell(1, 0, 4), 7);
        due("p6 cell", x.cell(1, 2, 3), 2);
        due("p6 R has no col 3", x.cell(0, 0, 3), NONE);
        due("p6 R has no col -1", x.cell(0, 1, -1), NONE);
        due("p6 S has no col 2", x.cell(1, 1, 2), NONE);
        due("p6 S has no col 5", x.cell(1, 0, 5), NONE);
        due("p6 no row 4", x.cell(0, 4, 0), NONE);
        due("p6 no row 3", x.cell(1, 3, 3), NONE);
        due("p6 no row -1", x.cell(0, -1, 0), NONE);
        due("p6 no table 2", x.cell(2, 0, 0), NONE);
        due("p6 no table -1", x.cell(-1, 0, 0), NONE);
    }

    private static void form(String text, int... form) {
        BatchShare x = Check.with("", text);
        for (int what = 0; what < form.length; what++) {
            due("p7 form(0, " + what + ") of " + text, x.form(0, what), form[what]);
        }
    }

    private static void p7form() {
        form("r", 0, NONE, NONE, 0, 9, 0, 9, 0, 9, 0, 9, 0, 9, 3, 0, 1, 2, NONE, NONE, 0, 0);
        form("s", 1, NONE, NONE, 0, 9, 0, 9, 0, 9, 0, 9, 0, 9, 2, 3, 4, NONE, NONE, NONE, 0, 0);
        form("join c=e", 2, 2, 4, 0, 9, 0, 9, 0, 9, 0, 9, 0, 9, 5, 0, 1, 2, 3, 4, 0, 0);
        form("join b=d if a<3 and b<=4 and c=5 if d>=6 and e>7 show e,a",
            2, 1, 3, 0, 2, 0, 4, 5, 5, 6, 9, 8, 9, 2, 4, 0, NONE, NONE, NONE, 0, 0);
        form("r if a>2 and a>=2 and a<8 and a<=8 show a,a,a,a,a", 0, NONE, NONE, 3, 7, 0, 9, 0, 9, 0, 9, 0, 9, 5, 0, 0, 0, 0, 0, 0, 0);
        form("r show a,b show c", 0, NONE, NONE, 0, 9, 0, 9, 0, 9, 0, 9, 0, 9, 1, 2, NONE, NONE, NONE, NONE, 0, 0);
        form("s if d<0 show d", 1, NONE, NONE, 1, 0, 1, 0, 1, 0, 1, 0, 1, 0, 1, 3, NONE, NONE, NONE, NONE, 1, 0);
        form("join a=d if e>9 and a=3", 2, 0, 3, 1, 0, 1, 0, 1, 0, 1, 0, 1, 0, 5, 0, 1, 2, 3, 4, 1, 0);
        form("r if a=3 and a=4", 0, NONE, NONE, 1, 0, 1, 0, 1, 0, 1, 0, 1, 0, 3, 0, 1, 2, NONE, NONE, 1, 0);
        form("r if a>=3 and a<=3", 0, NONE, NONE, 3, 3, 0, 9, 0, 9, 0, 9, 0, 9, 3, 0, 1, 2, NONE, NONE, 0, 0);
        BatchShare x = small();
        x.strike(2);
        due("p7 STRUCK", x.form(2, 20), 1);
        due("p7 not STRUCK", x.form(1, 20), 0);
        due("p7 what 21", x.form(0, 21), -2);
        due("p7 what -1", x.form(0, -1), -2);
        due("p7 no QUERY 4", x.form(4, 0), -2);
        due("p7 no QUERY -1", x.form(-1, 0), -2);
    }

    private static int digestOf(int... numbers) {
        long digest = 7;
        for (int number : numbers) {
            digest = (31 * digest + number) % 1000003;
        }
        return (int) digest;
    }

    private static void p8digest() {
        BatchShare x = small();
        due("p8 r", x.digest(0), digestOf(0, 9, 9, 0, 2, 0, 9, 0, 9, 0, 9, 0, 9, 3, 0, 1, 2));
        due("p8 r, as shared/tests tells it", x.digest(0), 988882);
        due("p8 s", x.digest(1), digestOf(1, 9, 9, 0, 9, 0, 9, 0, 9, 0, 9, 7, 9, 1, 4));
        due("p8 join", x.digest(2), digestOf(2, 0, 3, 0, 2, 0, 9, 0, 9, 0, 9, 0, 9, 2, 1, 4));
        due("p8 VOID", x.digest(3), digestOf(0, 9, 9, 1, 0, 1, 0, 1, 0, 1, 0, 1, 0, 3, 0, 1, 2));
        due("p8 no QUERY 4", x.digest(4), NONE);
        due("p8 no QUERY -1", x.digest(-1), NONE);
    }

    private static void p9alike() {
        BatchShare x = Check.with("", "r if a<3 show a", "r if a<3 show b", "r show a if a<=2 and a<7", "r if a<0", "r if b>9",
            "r if a<0 show a,b", "join a=d", "join a=e");
        int[] first = {0, 1, 0, 3, 3, 5, 6, 7};
        for (int q = 0; q < 8; q++) {
            due("p9 alike(" + q + ")", x.alike(q), first[q]);
        }
        due("p9 no QUERY 8", x.alike(8), NONE);
        due("p9 no QUERY -1", x.alike(-1), NONE);
        BatchShare y = Check.with("base 1", "s", "s");
        y.strike(0);
        due("p9 STRUCK ones are ALIKE, too", y.alike(1), 0);
    }

    private static void p10answer() {
        BatchShare x = small();
        due("p10 r", x.answer(0, NONE, 99), 2);
        due("p10 r second row", x.answer(0, 1, 1), 5);
        due("p10 no third row", x.answer(0, 2, 0), -2);
        due("p10 no col 3", x.answer(0, 0, 3), -2);
        due("p10 no col -1", x.answer(0, 0, -1), -2);
        due("p10 s", x.answer(1, NONE, -7), 2);
        due("p10 s second row", x.answer(1, 1, 0), 8);
        due("p10 s shows one COL", x.answer(1, 0, 1), -2);
        due("p10 join", x.answer(2, NONE, 0), 3);
        int[][] rows = {{2, 7}, {5, 8}, {5, 0}};
        for (int row = 0; row < 3; row++) {
            due("p10 join row " + row, x.answer(2, row, 0), rows[row][0]);
            due("p10 join row " + row, x.answer(2, row, 1), rows[row][1]);
        }
        due("p10 join no fourth row", x.answer(2, 3, 0), -2);
        due("p10 VOID", x.answer(3, NONE, 0), 0);
        due("p10 VOID row", x.answer(3, 0, 0), -2);
        due("p10 row -2", x.answer(0, -2, 0), -2);
        due("p10 no QUERY 4", x.answer(4, NONE, 0), -2);
        due("p10 no QUERY -1", x.answer(-1, NONE, 0), -2);
        x.strike(0);
        due("p10 STRUCK ones, too", x.answer(0, 1, 2), 3);
        x.change(0, 0, 0, 9);
        due("p10 rows as they are", x.answer(0, NONE, 0), 1);
        due("p10 rows as they are", x.answer(0, 0, 0), 2);
        BatchShare few = Check.with("base 1;r 5 1 1;s 1 1;s 2 2;s 5 7;s 5 8", "s if d>2", "join a=d show e,a");
        due("p10 s, the first rows are out", few.answer(0, 0, 1), 7);
        due("p10 s, the second row", few.answer(0, 1, 1), 8);
        due("p10 more rows of S", few.answer(1, 1, 0), 8);
        BatchShare more = Check.with("base 1;r 1 1 1;r 2 2 2;r 5 6 7;s 5 1", "join a=d show c,d", "join a=d if e=1 and c>7");
        due("p10 more rows of R", more.answer(0, 0, 0), 7);
        due("p10 none joined", more.answer(1, NONE, 0), 0);
        due("p10 none joined", more.answer(1, 0, 0), -2);
    }

    private static void p11alone() {
        BatchShare x = small();
        x.keep(0);
        x.strike(2);
        int[] alone = {4, 3, 13, 0};
        for (int q = 0; q < 4; q++) {
            due("p11 alone(" + q + ")", x.alone(q), alone[q]);
        }
        due("p11 no QUERY 4", x.alone(4), NONE);
        due("p11 no QUERY -1", x.alone(-1), NONE);
        due("p11 without a BASE", Check.with("", "join a=d").alone(0), 0);
    }

    private static void p12candidates() {
        BatchShare x = small();
        due("p12 candidates", x.candidates(), 4);
        x.strike(2);
        due("p12 without a STRUCK one", x.candidates(), 2);
        due("p12 three WIDE ones", Check.with("", "r if a=1", "r if a=3", "r if a=5").candidates(), 6);
        due("p12 a WIDE one is there", Check.with("", "r if a=1", "r if a=3", "r if a>=1 and a<=3").candidates(), 3);
        due("p12 two WIDE ones alike", Check.with("", "r if a=1 and b<=5", "r if a=3 and b>=5", "r if a=3 and b<=5", "r if a=1 and b>=5")
            .candidates(), 9);
        due("p12 of joins by COLS", Check.with("", "join a=d if a=1", "join a=e if a=2").candidates(), 6);
        due("p12 VOID", Check.with("", "r if a<0").candidates(), 0);
        String[] joins = new String[8];
        for (int i = 0; i < 8; i++) {
            int[] least = {0, 0, 0, 1, 1, 2, 2, 3};
            int[] greatest = {1, 2, 4, 3, 6, 7, 8, 9};
            joins[i] = "join a=d if a>=" + least[i] + " and a<=" + greatest[i] + " and b>=" + (7 - i) + " and b<=" + (8 - i / 2)
                + " and d>=" + least[7 - i] + " and d<=" + greatest[i] + " and e>=" + i + " and e<=" + (i + 1);
        }
        BatchShare many = Check.with("", joins);
        Check.holds("p12 many", many.candidates() > 80 && many.candidates() <= 108);
    }

    private static void candidate(BatchShare x, int candidate, int... told) {
        for (int what = 0; what < told.length; what++) {
            due("p13 candidate(" + candidate + ", " + what + ")", x.candidate(candidate, what), told[what]);
        }
    }

    private static void p13candidate() {
        BatchShare x = small();
        candidate(x, 0, 0, NONE, NONE, 0, 2, 0, 9, 0, 9, 0, 9, 0, 9, 2, 4);
        candidate(x, 1, 1, NONE, NONE, 0, 9, 0, 9, 0, 9, 0, 9, 7, 9, 2, 3);
        candidate(x, 2, 1, NONE, NONE, 0, 9, 0, 9, 0, 9, 0, 9, 0, 9, 3, 3);
        candidate(x, 3, 2, 0, 3, 0, 2, 0, 9, 0, 9, 0, 9, 0, 9, 3, 13);
        due("p13 no fifth", x.candidate(4, 0), -2);
        due("p13 no -1", x.candidate(-1, 0), -2);
        due("p13 what 15", x.candidate(0, 15), -2);
        due("p13 what -1", x.candidate(0, -1), -2);
        x.put(0, 2, 0, 0);
        due("p13 ROWS now", x.candidate(3, 13), 5);
        due("p13 MAKE now", x.candidate(3, 14), 5 + 3 + 3 * 3);
        BatchShare y = Check.with("base 9;r 1 1 1;s 1 1", "r if a=1 and b<4", "s if d=2", "r if a=3 and b>=2", "s if e=5", "r if c=0");
        candidate(y, 5, 0, NONE, NONE, 1, 3, 0, 9, 0, 9, 0, 9, 0, 9, 1, 1);
        candidate(y, 6, 0, NONE, NONE, 0, 9, 0, 9, 0, 9, 0, 9, 0, 9, 1, 1);
        candidate(y, 7, 1, NONE, NONE, 0, 9, 0, 9, 0, 9, 0, 9, 0, 9, 1, 1);
        due("p13 WIDE ones alike once", y.candidates(), 8);
        BatchShare z = Check.with("base 9;r 1 1 1;s 1 1;s 1 2", "join a=d if b=1 and e=1", "join a=d if b=2 and e=2");
        candidate(z, 8, 2, 0, 3, 0, 9, 1, 2, 0, 9, 0, 9, 1, 2, 2, 1 + 2 + 1 * 2);
    }

    private static void p14gain() {
        BatchShare x = small();
        int[] gains = {10000, 9998, 9997, 9997};
        for (int c = 0; c < 4; c++) {
            due("p14 gain(" + c + ")", x.gain(c), gains[c]);
        }
        due("p14 no fifth", x.gain(4), NONE);
        due("p14 no -1", x.gain(-1), NONE);
        String before = all(x);
        x.gain(0);
        same("p14 gain", before, x);
        x.keep(0);
        due("p14 KEPT already", x.gain(0), 9996);
        due("p14 besides that KEPT", x.gain(3), 10000 + 11 - 3 - 13);
        x.change(0, 0, 1, 3);
        due("p14 KEPT, but STALE", x.gain(0), 10000);
        BatchShare y = pairs(0);
        int[] more = {10004, 10000, 10002, 9999, 9994, 9994};
        for (int c = 0; c < 6; c++) {
            due("p14 room is not asked for: gain(" + c + ")", y.gain(c), more[c]);
        }
        BatchShare z = sixKept();
        due("p14 besides six", z.gain(6), 10000 + 7 - 1 - 7);
    }

    private static void greedy(String name, BatchShare x, int... told) {
        for (int what = 0; what < told.length; what++) {
            due("p15 " + name + " greedy(" + what + ")", x.greedy(what), told[what]);
        }
        due("p15 " + name + " asked again", x.greedy(0), told[0]);
        due("p15 greedy(8)", x.greedy(8), -2);
        due("p15 greedy(-1)", x.greedy(-1), -2);
    }

    private static void p15greedy() {
        greedy("two", pairs(9), 2, 6, 0, 2, NONE, NONE, NONE, NONE);
        greedy("just room", pairs(3), 2, 6, 0, 2, NONE, NONE, NONE, NONE);
        greedy("room for one", pairs(2), 1, 4, 0, NONE, NONE, NONE, NONE, NONE);
        greedy("no room", pairs(0), 0, 0, NONE, NONE, NONE, NONE, NONE, NONE);
        BatchShare kept = pairs(9);
        kept.keep(0);
        greedy("as if nothing was KEPT", kept, 2, 6, 0, 2, NONE, NONE, NONE, NONE);
        String eightRows = ";s 0 0;s 1 0;s 2 0;s 3 0;s 4 0;s 5 0;s 6 0;s 7 0";
        String sixRows = ";r 0 0 0;r 1 0 0;r 2 0 0;r 3 0 0;r 4 0 0;r 5 0 0";
        greedy("fewer ROWS first", Check.with("base 9" + sixRows + eightRows, "s if d<2", "s if d<2", "r if a<1", "r if a<1"),
            2, 8, 1, 0, NONE, NONE, NONE, NONE);
        greedy("the least first", Check.with("base 9" + sixRows, "r if a=5", "r if a=5", "r if a=1", "r if a=1"),
            2, 8, 0, 1, NONE, NONE, NONE, NONE);
        greedy("fewer ROWS alone have room", Check.with("base 1" + sixRows + eightRows, "s if d<2", "s if d<2", "r if a<1", "r if a<1"),
            1, 4, 1, NONE, NONE, NONE, NONE, NONE);
        greedy("a WIDE one", Check.with("base 9" + sixRows, "r if a=0", "r if a=1", "r if a=1 and b=0"), 1, 6, 3, NONE, NONE, NONE, NONE, NONE);
        greedy("six at most", crossed(), 6, 24, 0, 1, 3, 5, 7, 9);
    }

    /** Four RANGES of R and four of S, each of two joins, no row in any, all rows in WIDE ones: eight PARTS gain 4 each. */
    private static BatchShare crossed() {
        String[] joins = new String[8];
        String[] cols = {"a=d", "a=e", "b=d", "b=e", "c=d", "c=e", "a=d", "a=e"};
        String[] ofR = {"a=0", "a=9", "b=0", "b=9"};
        String[] ofS = {"d=0", "d=9", "e=0", "e=9"};
        for (int i = 0; i < 8; i++) {
            joins[i] = "join " + cols[i] + " if " + ofR[i / 2] + " and " + ofS[(i + 1) / 2 % 4];
        }
        return Check.with("base 5" + ";r 5 5 5".repeat(4) + ";s 5 5".repeat(4), joins);
    }

    private static void best(String name, BatchShare x, int gain, int lesser, int greater) {
        due("p16 " + name + " best(0)", x.best(0), gain);
        due("p16 " + name + " best(1)", x.best(1), lesser);
        due("p16 " + name + " best(2)", x.best(2), greater);
        due("p16 best(3)", x.best(3), -2);
        due("p16 best(-1)", x.best(-1), -2);
    }

    private static void p16best() {
        best("two", pairs(9), 6, 0, 2);
        best("just room", pairs(3), 6, 0, 2);
        best("room for one", pairs(2), 4, 0, NONE);
        best("no room", pairs(0), 0, NONE, NONE);
        BatchShare kept = pairs(9);
        kept.keep(0);
        kept.keep(2);
        best("as if nothing was KEPT", kept, 6, 0, 2);
        String rows = ";r 0 0 0;r 1 0 0;r 2 0 0;r 3 0 0;s 0 0;s 1 0;s 2 0;s 3 0";
        best("one before two", Check.with("base 9" + rows, "r if a=0", "r if a=0", "s if d<2", "s if d<2"), 2, 0, NONE);
        best("the first pair", Check.with("base 9" + rows, "r if a=1", "r if a=1", "r if a=3", "r if a=3", "s if d=1", "s if d=1"), 4, 0, 1);
        best("the first one", Check.with("base 1" + rows, "r if a=1", "r if a=1", "r if a=3", "r if a=3"), 2, 0, NONE);
        best("less than each for itself", Check.with("base 9" + rows, "r if a=0", "r if a=0", "r if a=0 and b=0", "r if a=0 and b=0"), 8, 0, NONE);
        best("nothing above 0", small(), 0, NONE, NONE);
        String five = ";r 0 0 0;r 1 0 0;r 2 0 0;r 3 0 0;r 4 0 0";
        String eight = ";s 0 0;s 1 0;s 2 0;s 3 0;s 4 0;s 5 0;s 6 0;s 7 0";
        best("two that are not the best one", Check.with("base 2" + five + eight, "s if d<2", "s if d<2", "r if a=1", "r if a=1",
            "r if a=3", "r if a=3"), 6, 1, 2);
    }

    private static void p17put() {
        BatchShare x = small();
        x.keep(0);
        x.keep(1);
        due("p17 put", x.put(0, 3, 1, 2), 5);
        due("p17 the row", x.cell(0, 4, 0) * 100 + x.cell(0, 4, 1) * 10 + x.cell(0, 4, 2), 312);
        due("p17 not in RANGES", x.kept(0, 15), 0);
        due("p17 put", x.put(0, 2, 9, 9), 6);
        due("p17 in RANGES", x.kept(0, 15), 1);
        due("p17 of the other table", x.kept(1, 15), 0);
        due("p17 put in S, c is not asked for", x.put(1, 0, 9, -5), 4);
        due("p17 the row", x.cell(1, 3, 3) * 10 + x.cell(1, 3, 4), 9);
        due("p17 in RANGES", x.kept(1, 15), 1);
        String before = all(x);
        due("p17 no table 2", x.put(2, 1, 1, 1), NONE);
        due("p17 no table -1", x.put(-1, 1, 1, 1), NONE);
        due("p17 a 10", x.put(0, 10, 1, 1), NONE);
        due("p17 b -1", x.put(0, 1, -1, 1), NONE);
        due("p17 c 10", x.put(0, 1, 1, 10), NONE);
        due("p17 d 10", x.put(1, 10, 1, 1), NONE);
        due("p17 e -1", x.put(1, 1, -1, 1), NONE);
        same("p17", before, x);
        for (int size = 7; size <= 12; size++) {
            due("p17 put", x.put(0, 0, 0, 0), size);
        }
        due("p17 no room", x.put(0, 0, 0, 0), NONE);
        for (int size = 5; size <= 8; size++) {
            due("p17 put", x.put(1, 0, 0, 0), size);
        }
        due("p17 no room", x.put(1, 0, 0, 0), NONE);
        due("p17 an ACT each", x.count(9), 2 + 3 + 6 + 4);
        due("p17 without a BASE", new BatchShare().put(0, 1, 1, 1), NONE);
    }

    private static void p18remove() {
        BatchShare x = small();
        x.keep(0);
        x.keep(1);
        due("p18 remove", x.remove(0, 2), 3);
        due("p18 later ones are one nearer", x.cell(0, 2, 0), 6);
        due("p18 not in RANGES", x.kept(0, 15), 0);
        due("p18 remove", x.remove(0, 0), 2);
        due("p18 in RANGES", x.kept(0, 15), 1);
        due("p18 first", x.cell(0, 0, 0), 2);
        due("p18 ROWS as they were", x.kept(0, 13), 2);
        due("p18 remove the last", x.remove(1, 2), 2);
        due("p18 e=0 is not in RANGES", x.kept(1, 15), 0);
        due("p18 remove", x.remove(1, 1), 1);
        due("p18 in RANGES", x.kept(1, 15), 1);
        String before = all(x);
        due("p18 no row", x.remove(0, 2), NONE);
        due("p18 no row", x.remove(1, 1), NONE);
        due("p18 no row -1", x.remove(0, -1), NONE);
        due("p18 no table 2", x.remove(2, 0), NONE);
        due("p18 no table -1", x.remove(-1, 0), NONE);
        same("p18", before, x);
        due("p18 the last", x.remove(1, 0), 0);
        due("p18 without a BASE", new BatchShare().remove(0, 0), NONE);
    }

    private static void p19change() {
        BatchShare x = small();
        x.keep(0);
        x.keep(3);
        due("p19 change", x.change(0, 3, 0, 5), 6);
        due("p19 in no RANGES", x.kept(0, 15), 0);
        due("p19 as it is, is in RANGES", x.change(0, 3, 0, 2), 5);
        due("p19 STALE", x.kept(0, 15), 1);
        due("p19 STALE, of kind 2", x.kept(1, 15), 1);
        x.refresh(0);
        due("p19 refreshed", x.kept(0, 15), 0);
        due("p19 as it was, was in RANGES", x.change(0, 3, 0, 9), 2);
        due("p19 STALE", x.kept(0, 15), 1);
        x.refresh(0);
        x.refresh(1);
        due("p19 change of S", x.change(1, 0, 4, 0), 7);
        due("p19 not of kind 0", x.kept(0, 15), 0);
        due("p19 of kind 2 all of S", x.kept(1, 15), 1);
        due("p19 it is so", x.cell(1, 0, 4), 0);
        String before = all(x);
        due("p19 the same number", x.change(0, 0, 0, 1), NONE);
        due("p19 number 10", x.change(0, 0, 0, 10), NONE);
        due("p19 number -1", x.change(0, 0, 0, -1), NONE);
        due("p19 no row", x.change(0, 4, 0, 1), NONE);
        due("p19 no row -1", x.change(0, -1, 0, 1), NONE);
        due("p19 col 3 is not of R", x.change(0, 0, 3, 1), NONE);
        due("p19 col 2 is not of S", x.change(1, 0, 2, 1), NONE);
        due("p19 col 5", x.change(1, 0, 5, 1), NONE);
        due("p19 table 2", x.change(2, 0, 0, 9), NONE);
        same("p19", before, x);
        due("p19 without a BASE", new BatchShare().change(0, 0, 0, 1), NONE);
        BatchShare y = Check.with("base 9;r 1 1 1;s 1 1;s 2 2", "join a=d if a<5 and e<2");
        y.keep(2);
        y.change(0, 0, 2, 7);
        due("p19 a row of R in RANGES of R, joined to none or not", y.kept(0, 15), 1);
        y.refresh(0);
        y.change(1, 1, 3, 9);
        due("p19 a row of S not in RANGES of S", y.kept(0, 15), 0);
    }

    private static void p20strike() {
        BatchShare x = small();
        due("p20 strike", x.strike(0), 1);
        due("p20 strike", x.strike(3), 2);
        due("p20 bits", x.count(4), 9);
        due("p20 BATCH without it", x.batch(), 16);
        due("p20 again: not STRUCK", x.strike(0), 1);
        due("p20 bits", x.count(4), 8);
        due("p20 an ACT each", x.count(9), 3);
        String before = all(x);
        due("p20 no QUERY 4", x.strike(4), NONE);
        due("p20 no QUERY -1", x.strike(-1), NONE);
        due("p20 no QUERY 31", x.strike(31), NONE);
        same("p20", before, x);
        due("p20 without a BASE", Check.with("", "r").strike(0), NONE);
    }

    private static BatchShare sixKept() {
        BatchShare x = Check.with("base 50" + SEVEN_ROWS, SEVEN);
        for (int c = 0; c < 6; c++) {
            due("p21 keep(" + c + ")", x.keep(c), 0);
        }
        return x;
    }

    private static void p21keep() {
        BatchShare x = sixKept();
        due("p21 SPENT", x.count(7), 6 * 7);
        due("p21 a seventh: the first of least USED goes", x.keep(6), 1);
        due("p21 six are KEPT", x.count(5), 6);
        due("p21 the first is the second now", x.kept(0, 3), 1);
        due("p21 the last is the new one", x.kept(5, 3), 6);
        due("p21 SPENT", x.count(7), 7 * 7);
        String before = all(x);
        due("p21 is KEPT", x.keep(3), NONE);
        due("p21 no such", x.keep(x.candidates()), NONE);
        due("p21 no -1", x.keep(-1), NONE);
        same("p21", before, x);
        x.strike(1);
        x.run();
        due("p21 USED", x.kept(1, 14), 1);
        due("p21 not USED, its QUERY is STRUCK", x.kept(0, 14), 0);
        x.strike(1);
        due("p21 one not KEPT", x.keep(0), 1);
        due("p21 least USED goes", x.kept(0, 3), 2);
        due("p21 USED at TIME", x.kept(5, 14), 1);

        BatchShare used = sixKept();
        used.strike(3);
        used.run();
        used.keep(used.candidates() - 1);
        due("p21 six still, one of them new", used.count(5), 6);
        due("p21 the first stays, it was USED", used.kept(0, 3), 0);
        due("p21 the fourth went", used.kept(3, 3), 4);
        used.forget(0);
        used.put(0, 1, 1, 1);
        due("p21 STALE", used.kept(0, 15), 1);
        used.forget(0);
        due("p21 kept anew", used.keep(0), 0);
        due("p21 made now: not STALE", used.kept(4, 15), 0);

        BatchShare y = Check.with("base 3" + SEVEN_ROWS, "r if a=0", "r if a<2", "r if a<3", "r if a<4", "r if a=6");
        due("p21 more ROWS than MEMORY", y.keep(3), NONE);
        due("p21 keep", y.keep(0), 0);
        due("p21 just room", y.keep(1), 0);
        due("p21 ROWS", y.count(6), 3);
        due("p21 two go", y.keep(2), 2);
        due("p21 ROWS", y.count(6), 3);
        due("p21 nothing but the new one", y.count(5), 1);
        due("p21 SPENT", y.count(7), 21);
        y.change(0, 0, 0, 9);
        due("p21 one KEPT that is STALE is KEPT", y.keep(2), NONE);
        due("p21 its ROWS count as they were", y.keep(1), 1);
        due("p21 without a BASE", Check.with("", "r").keep(0), NONE);
    }

    private static void p22forget() {
        BatchShare x = sixKept();
        due("p22 forget", x.forget(2), 5);
        due("p22 later ones are one nearer", x.kept(2, 3), 3);
        due("p22 SPENT stays", x.count(7), 42);
        String before = all(x);
        due("p22 no sixth", x.forget(5), NONE);
        due("p22 no -1", x.forget(-1), NONE);
        same("p22", before, x);
        due("p22 forget the last", x.forget(4), 4);
        due("p22 ACTS", x.count(9), 8);
        due("p22 without a BASE", new BatchShare().forget(0), NONE);
    }

    private static void p23refresh() {
        BatchShare x = Check.with("base 4;r 1 1 1;r 2 2 2;r 8 8 8;s 1 1", "r if a<5", "s", "r if a=8");
        x.keep(0);
        x.keep(1);
        x.keep(2);
        x.run();
        due("p23 not STALE", x.refresh(0), NONE);
        x.run();
        x.remove(0, 0);
        int spent = x.count(7);
        due("p23 refresh", x.refresh(0), 1);
        due("p23 ROWS", x.kept(0, 13), 1);
        due("p23 not STALE", x.kept(0, 15), 0);
        due("p23 SPENT is MAKE more", x.count(7), spent + 2);
        due("p23 USED stays", x.kept(0, 14), 2);
        due("p23 TIME stays", x.count(8), 2);
        x.put(0, 0, 0, 0);
        due("p23 just room", x.refresh(0), 2);
        x.put(0, 0, 0, 0);
        spent = x.count(7);
        due("p23 no more room", x.refresh(0), -2);
        due("p23 FORGOTTEN", x.count(5), 2);
        due("p23 later ones are one nearer", x.kept(0, 0), 1);
        due("p23 nothing SPENT", x.count(7), spent);
        String before = all(x);
        due("p23 no third", x.refresh(2), NONE);
        due("p23 no -1", x.refresh(-1), NONE);
        due("p23 not STALE", x.refresh(0), NONE);
        same("p23", before, x);
        int acts = x.count(9);
        due("p23 undo: an ACT, too", x.undo(), acts - 1);
        due("p23 KEPT again, STALE", x.kept(0, 15), 1);
    }

    private static void p24run() {
        BatchShare x = small();
        due("p24 run", x.run(), 20);
        due("p24 TIME", x.count(8), 1);
        due("p24 SPENT", x.count(7), 20);
        x.keep(0);
        x.keep(1);
        x.keep(2);
        due("p24 run", x.run(), 2 + 2 + (2 + 3 + 6));
        due("p24 SERVES: USED", x.kept(0, 14), 2);
        due("p24 SERVES: USED", x.kept(1, 14), 2);
        due("p24 as many ROWS as MAKE: not USED", x.kept(2, 14), 1);
        due("p24 SPENT", x.count(7), 20 + 4 + 3 + 3 + 15);
        x.keep(3);
        x.strike(0);
        due("p24 run", x.run(), 2 + 3);
        due("p24 not taken for the join", x.kept(0, 14), 2);
        due("p24 of kind 2", x.kept(3, 14), 3);
        due("p24 an ACT", x.count(9), 8);
        due("p24 without a BASE", Check.with("", "r").run(), NONE);
        due("p24 no QUERIES", Check.with("base 1;r 1 1 1").run(), 0);
    }

    private static void p25undo() {
        BatchShare x = small();
        for (int acts = 1; acts <= 12; acts++) {
            BatchShare y = acted(acts);
            due("p25 each act is one", y.count(9), acts);
            due("p25 undo " + acts, y.undo(), acts - 1);
            same("p25 undo " + acts + ": as before it", all(acted(acts - 1)), y);
        }
        due("p25 none can", x.undo(), -2);
        for (int i = 0; i < 25; i++) {
            x.run();
        }
        due("p25 the last 20", x.count(9), 20);
        for (int i = 19; i >= 0; i--) {
            due("p25 undo", x.undo(), i);
            due("p25 TIME", x.count(8), 5 + i);
        }
        due("p25 none can", x.undo(), -2);
        due("p25 TIME stays", x.count(8), 5);
        x.strike(0);
        Check.query(x, "s");
        x.seed(9);
        due("p25 undo", x.undo(), 0);
        due("p25 QUERIES stay", x.count(3), 5);
        due("p25 x stays", x.count(10), 9);
        due("p25 not STRUCK", x.count(4), 0);
    }

    private static BatchShare acted(int acts) {
        BatchShare x = small();
        for (int act = 0; act < acts; act++) {
            act(x, act);
        }
        return x;
    }

    private static void act(BatchShare x, int act) {
        switch (act) {
            case 0 -> x.keep(0);
            case 1 -> x.keep(3);
            case 2 -> x.run();
            case 3 -> x.put(0, 1, 1, 1);
            case 4 -> x.refresh(0);
            case 5 -> x.remove(1, 0);
            case 6 -> x.strike(1);
            case 7 -> x.change(0, 0, 0, 9);
            case 8 -> x.forget(0);
            case 9 -> x.put(1, 1, 1, 1);
            case 10 -> x.refresh(0);
            default -> x.run();
        }
    }

    private static void kept(BatchShare x, int kept, int... told) {
        for (int what = 0; what < told.length; what++) {
            due("p26 kept(" + kept + ", " + what + ")", x.kept(kept, what), told[what]);
        }
    }

    private static void p26kept() {
        BatchShare x = small();
        x.run();
        x.keep(3);
        x.keep(1);
        x.put(0, 1, 0, 0);
        kept(x, 0, 2, 0, 3, 0, 2, 0, 9, 0, 9, 0, 9, 0, 9, 3, 1, 1);
        kept(x, 1, 1, NONE, NONE, 0, 9, 0, 9, 0, 9, 0, 9, 7, 9, 2, 1, 0);
        due("p26 what 16", x.kept(0, 16), -2);
        due("p26 what -1", x.kept(0, -1), -2);
        due("p26 no third", x.kept(2, 0), -2);
        due("p26 no -1", x.kept(-1, 0), -2);
        x.strike(2);
        kept(x, 0, 2, 0, 3);
    }

    private static void p27batch() {
        BatchShare x = small();
        due("p27 batch", x.batch(), 20);
        x.keep(0);
        due("p27 with one KEPT", x.batch(), 16);
        x.keep(3);
        due("p27 with one of kind 2", x.batch(), 2 + 3 + 3);
        x.put(0, 9, 9, 9);
        due("p27 not STALE by that", x.batch(), 8);
        x.put(0, 0, 9, 9);
        due("p27 STALE", x.batch(), 6 + 3 + (6 + 3 + 3 * 3));
        due("p27 without a BASE", Check.with("", QUERIES).batch(), 0);
    }

    private static void p28costs() {
        BatchShare x = small();
        int[] costs = {4, 3, 13, 0};
        for (int q = 0; q < 4; q++) {
            due("p28 costs(" + q + ")", x.costs(q), costs[q]);
        }
        x.keep(0);
        due("p28 by one KEPT", x.costs(0), 2);
        due("p28 a join by its kind 0", x.costs(2), 2 + 3 + 6);
        x.keep(3);
        due("p28 a join by its kind 2", x.costs(2), 3);
        x.strike(0);
        due("p28 STRUCK", x.costs(0), NONE);
        due("p28 no QUERY 4", x.costs(4), NONE);
        due("p28 no QUERY -1", x.costs(-1), NONE);
    }

    private static void p29serves() {
        BatchShare x = small();
        due("p29 none", x.serves(0, 0), -2);
        x.keep(0);
        due("p29 serves", x.serves(0, 0), 0);
        due("p29 the join, too", x.serves(2, 0), 0);
        due("p29 no such PART", x.serves(0, 1), -2);
        due("p29 no such PART", x.serves(0, 2), -2);
        due("p29 VOID", x.serves(3, 0), -2);
        x.keep(3);
        due("p29 of kind 2", x.serves(2, 2), 1);
        due("p29 then not of kind 0", x.serves(2, 0), -2);
        x.put(0, 2, 2, 2);
        due("p29 STALE", x.serves(2, 2), -2);
        due("p29 STALE", x.serves(0, 0), -2);
        x.strike(1);
        due("p29 STRUCK", x.serves(1, 1), NONE);
        due("p29 kind 3", x.serves(0, 3), NONE);
        due("p29 kind -1", x.serves(0, -1), NONE);
        due("p29 no QUERY 4", x.serves(4, 0), NONE);
        due("p29 no QUERY -1", x.serves(-1, 0), NONE);

        BatchShare y = Check.with("base 50" + SEVEN_ROWS, "r if a<5 and b<7", "r if a<3 and b<6", "r if a<3 and b<7", "r if a<4 and b<8",
            "r if a<2 and b<5");
        for (int c = 0; c < 4; c++) {
            y.keep(c);
        }
        due("p29 the least, of several the first", y.serves(4, 0), 1);
        due("p29 the one that HOLDS it", y.serves(0, 0), 0);

        // One row of R, one of S: reading the kept join costs as much as joining kept rows, which cost nothing.
        BatchShare z = Check.with("base 9;r 1 1 1;r 2 2 2;s 1 1;s 2 2", "join a=d if a=1 and d=1");
        z.keep(0);
        z.keep(1);
        due("p29 apart", z.costs(0), 1 + 1 + 1);
        z.keep(2);
        due("p29 of kind 2", z.serves(0, 2), 2);
        BatchShare none = Check.with("base 9;r 1 1 1;s 1 1", "join a=d if b=5 and e=5");
        none.keep(0);
        none.keep(1);
        none.keep(2);
        due("p29 costs no more than the others", none.serves(0, 2), 2);
        due("p29 then they do not", none.serves(0, 0), -2);
        due("p29 then they do not", none.serves(0, 1), -2);
    }

    /** The KEPT join has 12 ROWS for a QUERY that would find none: then joining apart costs less. */
    private static void p29wideJoin() {
        String rows = ";r 1 0 0;r 1 1 0;r 1 2 0;s 1 0;s 1 1;s 1 2;s 1 3";
        BatchShare x = Check.with("base 50" + rows, "join a=d", "join a=d if b=9 and e=9");
        x.keep(2);
        due("p29 apart costs less", x.costs(1), 3 + 4);
        due("p29 apart costs less", x.serves(1, 2), -2);
        due("p29 of kind 2", x.serves(0, 2), 0);
        due("p29 of kind 2 costs", x.costs(0), 12);
        x.keep(3);
        due("p29 its kind 0 serves", x.serves(1, 0), 1);
        due("p29 its kind 1 does not", x.serves(1, 1), -2);
        due("p29 costs", x.costs(1), 0 + 4);
    }

    private static void p30marks() {
        BatchShare x = small();
        int[] marksR = {5, 5, 0, 0};
        int[] marksS = {6, 6, 4};
        for (int row = 0; row < 4; row++) {
            due("p30 marks(0, " + row + ")", x.marks(0, row), marksR[row]);
        }
        for (int row = 0; row < 3; row++) {
            due("p30 marks(1, " + row + ")", x.marks(1, row), marksS[row]);
        }
        due("p30 no row", x.marks(0, 4), NONE);
        due("p30 no row", x.marks(1, 3), NONE);
        due("p30 no row -1", x.marks(1, -1), NONE);
        due("p30 no table 2", x.marks(2, 0), NONE);
        due("p30 no table -1", x.marks(-1, 0), NONE);
        x.strike(2);
        due("p30 STRUCK", x.marks(0, 0), 1);
        due("p30 STRUCK", x.marks(1, 2), 0);
    }

    private static void p31shared() {
        BatchShare x = small();
        due("p31 shared", x.shared(), 4 + 3 + 2 * 3);
        x.strike(2);
        due("p31 STRUCK", x.shared(), 4 + 3);
        x.strike(1);
        due("p31 none of S", x.shared(), 4);
        x.strike(0);
        due("p31 VOID ones alone", x.shared(), 0);
        BatchShare y = Check.with(BASE, "join a=d if a<2", "join a=d if a>5 and e>7", "join b=d if c=3 and e=0", "r if a=4", "s");
        due("p31 two joins of the same COLS at once", y.shared(), 4 + 3 + 2 * 3 + 2 * 1);
        due("p31 without a BASE", Check.with("", "join a=d").shared(), 0);
        due("p31 S alone", Check.with(BASE, "s if d=9").shared(), 3);
    }

    private static void p32residue() {
        BatchShare x = Check.with(BASE, "r", "r if a<=2", "join a=d if a<=2 and e=8", "join a=d", "r if a<0", "s if e=7");
        x.keep(0);
        due("p32 nothing is filtered out", x.residue(0, 0), 0);
        due("p32 two are", x.residue(1, 0), 2);
        due("p32 of a join its kind 0", x.residue(2, 0), 2);
        due("p32 a VOID one has no PART", x.residue(4, 0), -2);
        due("p32 it is not of that kind", x.residue(5, 0), -2);
        x.keep(4);
        due("p32 kind", x.kept(1, 0), 1);
        x.keep(1);
        due("p32 does not HOLD it", x.residue(0, 2), -2);
        due("p32 HOLDS it", x.residue(2, 2), 0);
        due("p32 no fourth", x.residue(0, 3), NONE);
        x.keep(5);
        due("p32 of kind 2", x.kept(3, 0), 2);
        due("p32 of kind 2", x.residue(2, 3), 3 - 1);
        x.put(0, 9, 9, 9);
        due("p32 STALE", x.residue(0, 0), -2);
        x.strike(2);
        due("p32 STRUCK", x.residue(2, 2), NONE);
        due("p32 no QUERY 6", x.residue(6, 0), NONE);
        due("p32 no QUERY -1", x.residue(-1, 0), NONE);
        due("p32 no -1", x.residue(0, -1), NONE);
    }

    /** From x = 0 the first DRAWS are 0, 21468, 9988, 22117, 3498, 16927, 16045. */
    private static void p33drift() {
        BatchShare x = Check.with("base 30;r 1 2 3;r 2 5 3;r 4 4 0;r 6 5 9", "r if b<=2", "r if b=7");
        x.keep(0);
        String before = all(x);
        due("p33 no draw is below 0", x.drift(5, 30, 0, 0), 150 * (1 + 4));
        due("p33 none STALE", x.drift(5, 30, 0, 1), 0);
        // Row 21468 mod 4 = 0, COL 9988 mod 3 = 1, number 22117 mod 10 = 7.
        due("p33 one step", x.drift(1, 1, 1, 0), 4 + 4);
        due("p33 one STALE", x.drift(1, 1, 1, 1), 1);
        // The fifth DRAW mod 100 is 98: nothing changes in the second step, or the second time.
        due("p33 two steps", x.drift(1, 2, 1, 0), 8 + 8);
        due("p33 two steps", x.drift(1, 2, 1, 1), 1);
        due("p33 two times: from now on anew", x.drift(2, 1, 1, 0), 8 + 5);
        due("p33 two times", x.drift(2, 1, 1, 1), 1);
        due("p33 98 is not below 98", x.drift(2, 1, 98, 1), 1);
        same("p33 drift", before, x);
        x.seed(2147483647);
        before = all(x);
        x.drift(5, 30, 100, 0);
        same("p33 drift", before, x);
        due("p33 m 0", x.drift(0, 1, 0, 0), NONE);
        due("p33 m 6", x.drift(6, 1, 0, 0), NONE);
        due("p33 n 0", x.drift(1, 0, 0, 0), NONE);
        due("p33 n 31", x.drift(1, 31, 0, 0), NONE);
        due("p33 p -1", x.drift(1, 1, -1, 0), NONE);
        due("p33 p 101", x.drift(1, 1, 101, 0), NONE);
        due("p33 what 2", x.drift(1, 1, 0, 2), NONE);
        due("p33 what -1", x.drift(1, 1, 0, -1), NONE);
        due("p33 without a BASE", Check.with("", "r").drift(1, 1, 0, 0), NONE);
        BatchShare none = Check.with("base 1;s 1 1", "s");
        due("p33 R has no rows", none.drift(2, 3, 100, 0), 6);
        due("p33 the same number is no CHANGE", unchanged().drift(1, 1, 1, 1), 0);
        BatchShare both = Check.with("base 30;r 1 2 3", "r", "r if a=1", "r if a=9");
        both.keep(0);
        both.keep(1);
        both.keep(2);
        due("p33 two STALE ones of three", both.drift(1, 1, 1, 1), 2);
        due("p33 all times together", both.drift(2, 1, 99, 1), 4);
    }

    private static BatchShare unchanged() {
        BatchShare x = Check.with("base 30;r 1 7 3", "r");
        x.keep(0);
        return x;
    }

    private static void p34seed() {
        BatchShare x = new BatchShare();
        due("p34 seed", x.seed(5), 0);
        due("p34 seed", x.seed(2147483647), 5);
        due("p34 below 0", x.seed(-1), NONE);
        due("p34 below 0", x.seed(Integer.MIN_VALUE), NONE);
        due("p34 seed", x.seed(0), 2147483647);
        due("p34 no ACT", x.count(9), 0);
    }

    private static void p35count() {
        BatchShare x = small();
        x.keep(0);
        x.keep(3);
        x.run();
        x.strike(1);
        x.strike(3);
        x.seed(11);
        x.feed(0, 0, 0, 0, 0);
        int[] counts = {30, 4, 3, 4, 10, 2, 5, 4 + 13 + 8, 1, 5, 11, 20};
        for (int what = 0; what < counts.length; what++) {
            due("p35 count(" + what + ")", x.count(what), counts[what]);
        }
        due("p35 count(12)", x.count(12), NONE);
        due("p35 count(-1)", x.count(-1), NONE);
    }

    private static void p36image() {
        BatchShare x = new BatchShare();
        due("p36 without a BASE", x.image(0), 0);
        due("p36 k 4", x.image(4), NONE);
        due("p36 k -1", x.image(-1), NONE);
        Check.base(x, BASE);
        x.run();
        x.run();
        due("p36 TIME", x.image(3), 2);
        due("p36 no ACT", x.count(9), 2);
        x.run();
        due("p36 in place of the one there was", x.image(3), 3);
        x.run();
        due("p36 the later one", x.back(3), 3);
    }

    private static void p37back() {
        BatchShare x = small();
        due("p37 never made", x.back(0), NONE);
        x.keep(0);
        x.run();
        x.strike(1);
        x.seed(4);
        due("p37 image", x.image(0), 1);
        String then = all(x);
        x.run();
        x.change(0, 0, 0, 9);
        x.seed(8);
        x.image(1);
        Check.query(x, "join b=e if a<0");
        x.strike(4);
        x.strike(1);
        for (int i = 0; i < 30; i++) {
            x.run();
        }
        x.feed(0, 0, 0, 0, 0);
        String before = all(x);
        due("p37 k 4", x.back(4), NONE);
        due("p37 k -1", x.back(-1), NONE);
        due("p37 never made", x.back(2), NONE);
        same("p37", before, x);
        due("p37 back", x.back(0), 1);
        due("p37 QUERIES stay", x.count(3), 5);
        due("p37 those told since are not STRUCK", x.count(4), 2);
        due("p37 the TAPE stays", x.count(11), 20);
        x.end(0);
        Check.holds("p37 all else is as it was", all(x).equals(then.replaceFirst("^30 4 3 4 ", "30 4 3 5 ")));
        due("p37 x", x.count(10), 4);
        due("p37 what can be UNDONE", x.undo(), 2);
        due("p37 undone", x.count(4), 0);
        due("p37 undone", x.undo(), 1);
        due("p37 undone", x.count(8), 0);
        x.run();
        due("p37 another one", x.back(1), 2);
        due("p37 x", x.count(10), 8);
        due("p37 back again", x.back(0), 1);
        due("p37 ACTS are there again", x.count(9), 3);
        BatchShare y = new BatchShare();
        y.image(2);
        Check.base(y, BASE);
        y.run();
        due("p37 to no BASE", y.back(2), 0);
        due("p37 no BASE", y.run(), NONE);
        due("p37 no rows", y.count(1), 0);
    }

    public static void main(String[] args) {
        p1newObject();
        p2feed();
        p3end();
        p4base();
        p5query();
        p6cell();
        p7form();
        p8digest();
        p9alike();
        p10answer();
        p11alone();
        p12candidates();
        p13candidate();
        p14gain();
        p15greedy();
        p16best();
        p17put();
        p18remove();
        p19change();
        p20strike();
        p21keep();
        p22forget();
        p23refresh();
        p24run();
        p25undo();
        p26kept();
        p27batch();
        p28costs();
        p29serves();
        p29wideJoin();
        p30marks();
        p31shared();
        p32residue();
        p33drift();
        p34seed();
        p35count();
        p36image();
        p37back();
        Check.close("PromisesTest");
    }
}
