/** Part II of the document, its first half, sentence by sentence: the edges of FORMS, ANSWERS, PARTS and CANDIDATES. */
public final class FormEdgesTest {
    private static final int NONE = BatchShare.NONE;
    private static final String COLS = "abcde";

    private static void due(String call, long got, long want) {
        Check.due(call, got, want);
    }

    private static void sources() {
        Check.says("FORM of a QUERY: its SOURCE (0 r, 1 s, 2 join), the two COLS it joins (NONE, if it does not)");
        BatchShare x = Check.with("", "r", "s", "join a=d", "join a=e", "join b=d", "join b=e", "join c=d", "join c=e");
        int[][] told = {{0, NONE, NONE}, {1, NONE, NONE}, {2, 0, 3}, {2, 0, 4}, {2, 1, 3}, {2, 1, 4}, {2, 2, 3}, {2, 2, 4}};
        for (int q = 0; q < 8; q++) {
            for (int what = 0; what < 3; what++) {
                due("form(" + q + ", " + what + ")", x.form(q, what), told[q][what]);
            }
        }
    }

    /** RANGES of QUERY 0 are all 0 to 9, but for this COL. */
    private static void range(BatchShare x, String text, int col, int least, int greatest) {
        for (int c = 0; c < 5; c++) {
            due("least " + c + " of " + text, x.form(0, 3 + 2 * c), c == col ? least : 0);
            due("greatest " + c + " of " + text, x.form(0, 4 + 2 * c), c == col ? greatest : 9);
        }
        due("VOID " + text, x.form(0, 19), 0);
    }

    private static void isVoid(String text) {
        BatchShare x = Check.with("", text);
        for (int c = 0; c < 5; c++) {
            due("least " + c + " of " + text, x.form(0, 3 + 2 * c), 1);
            due("greatest " + c + " of " + text, x.form(0, 4 + 2 * c), 0);
        }
        due("VOID " + text, x.form(0, 19), 1);
    }

    private static void oneTest(String sign, int number, int least, int greatest) {
        for (int col = 0; col < 5; col++) {
            String test = " if " + COLS.charAt(col) + sign + number;
            String[] texts = {(col < 3 ? "r" : "s") + test, "join a=d" + test};
            for (String text : texts) {
                if (least > greatest) {
                    isVoid(text);
                } else {
                    range(Check.with("", text), text, col, least, greatest);
                }
            }
        }
    }

    private static void ranges() {
        Check.says("least and greatest number by which all its TESTS hold");
        for (int n = 0; n <= 9; n++) {
            oneTest("<", n, 0, n - 1);
            oneTest("<=", n, 0, n);
            oneTest("=", n, n, n);
            oneTest(">=", n, n, 9);
            oneTest(">", n, n + 1, 9);
        }
        range(Check.with("", "r if b>3 and b<5"), "3 4 5", 1, 4, 4);
        range(Check.with("", "r if b>=4 and b<=4"), "4 4", 1, 4, 4);
        range(Check.with("", "r if b=4 and b=4 and b<=4 and b>=4"), "four times", 1, 4, 4);
        range(Check.with("", "r if b>2 if b>5 if b>3"), "the greatest least", 1, 6, 9);
        range(Check.with("", "r if b<7 if b<5 if b<6"), "the least greatest", 1, 0, 4);
        range(Check.with("", "r if b>0 and b<9"), "neither end", 1, 1, 8);
    }

    private static void rangesWithoutTests() {
        Check.says("(0 to 9 of COLS without TESTS, and of those that are not of the SOURCE)");
        String[] texts = {"r", "s", "join a=d", "r show a", "s show e,d"};
        for (String text : texts) {
            range(Check.with("", text), text, -1, 0, 0);
        }
    }

    private static void voids() {
        Check.says("Is there no such number for a COL, the QUERY is VOID: all five RANGES are 1 to 0.");
        for (int col = 0; col < 5; col++) {
            char c = COLS.charAt(col);
            isVoid("join b=e if " + c + "<0");
            isVoid("join b=e if " + c + ">9");
            isVoid("join b=e if " + c + "=4 and " + c + "=5");
            isVoid("join b=e if " + c + ">4 and " + c + "<5");
            isVoid("join b=e if " + c + ">=5 and " + c + "<=4");
            isVoid("join b=e if a=1 and b=2 and c=3 and d=4 and e=5 if " + c + "=0");
        }
        BatchShare x = Check.with("", "join b=e if a<0 show e,c");
        int[] told = {2, 1, 4};
        for (int what = 0; what < 3; what++) {
            due("its SOURCE, its COLS", x.form(0, what), told[what]);
        }
        due("how many are shown", x.form(0, 13), 2);
        due("shown", x.form(0, 14), 4);
        due("shown", x.form(0, 15), 2);
        due("not so many", x.form(0, 16), NONE);
        BatchShare y = Check.with("", "r if a<1", "r if a>8", "r if b>=4 and b<=4");
        for (int q = 0; q < 3; q++) {
            due("one number is enough: QUERY " + q, y.form(q, 19), 0);
        }
    }

    private static void alike(int due, String one, String other) {
        due("'" + one + "', '" + other + "'", Check.with("", one, other).alike(1), due);
    }

    private static void alikeOnes() {
        Check.says("QUERIES are ALIKE, if their FORM is the same.");
        alike(0, "r", "r if a>=0 show a,b,c");
        alike(0, "r if a<5 and a>3", "r if a=4");
        alike(0, "r if a<0", "r if b>9");
        alike(0, "join a=d if e<0", "join a=d if a<0 and b=3");
        alike(0, "s show d show e", "s show e");
        alike(1, "r", "s");
        alike(1, "r if a<0 show a", "s if d<0 show d");
        alike(1, "join a=d", "join b=d");
        alike(1, "join a=d", "join a=e");
        alike(1, "join a=d if a<0", "join b=d if a<0");
        alike(1, "r if a<0", "r if a<0 show a");
        for (int col = 0; col < 5; col++) {
            String c = "join a=d if " + COLS.charAt(col);
            alike(1, c + ">=1", c + ">=2");
            alike(1, c + "<=1", c + "<=2");
        }
        alike(1, "r show a", "r show b");
        alike(1, "r show a", "r show a,a");
        alike(1, "r show a,b", "r show b,a");
        alike(1, "r show a,a,a,a,a", "r show a,a,a,a,b");
        alike(1, "join a=d", "join a=d show a,b,c,d");
    }

    private static int digest(int... numbers) {
        java.math.BigInteger sum = java.math.BigInteger.valueOf(7);
        for (int number : numbers) {
            sum = sum.multiply(java.math.BigInteger.valueOf(31)).add(java.math.BigInteger.valueOf(number));
        }
        return sum.mod(java.math.BigInteger.valueOf(1000003)).intValue();
    }

    private static void digests() {
        Check.says("it becomes 31 times itself and that number, of 1000003 the rest");
        BatchShare x = Check.with("", "r", "s show d", "join a=d", "join c=e if e>=9 show e,e,e,e,e", "r if c<0 show b", "join b=e if a>9");
        due("all shown", x.digest(0), digest(0, 9, 9, 0, 9, 0, 9, 0, 9, 0, 9, 0, 9, 3, 0, 1, 2));
        due("one shown", x.digest(1), digest(1, 9, 9, 0, 9, 0, 9, 0, 9, 0, 9, 0, 9, 1, 3));
        due("five shown", x.digest(2), digest(2, 0, 3, 0, 9, 0, 9, 0, 9, 0, 9, 0, 9, 5, 0, 1, 2, 3, 4));
        due("the greatest numbers", x.digest(3), digest(2, 2, 4, 0, 9, 0, 9, 0, 9, 0, 9, 9, 9, 5, 4, 4, 4, 4, 4));
        due("VOID", x.digest(4), digest(0, 9, 9, 1, 0, 1, 0, 1, 0, 1, 0, 1, 0, 1, 1));
        due("VOID", x.digest(5), digest(2, 1, 4, 1, 0, 1, 0, 1, 0, 1, 0, 1, 0, 5, 0, 1, 2, 3, 4));
        // 217 * 31 + 9 = 6736, 208825, 6473575 - 6 * 1000003 = 473557, and so on, by hand as far as the first ranges.
        due("by hand", digest(0, 9, 9, 0), 473557);
    }

    private static void answers() {
        Check.says("ANSWER of a QUERY: rows of R, of S, or of both (by rows of R, then of S), all numbers of which are in its RANGES");
        String rows = "base 1";
        for (int n = 2; n <= 7; n++) {
            rows += ";r " + n + " 5 5;r 5 " + n + " 5;s " + n + " 5";
        }
        BatchShare x = Check.with(rows, "r if a>=3 and a<=6", "r if b>=3 and b<=6", "r if c>=3 and c<=4", "s if d>=3 and d<=6", "s if e>=5 and e<=5",
            "join a=d if a>=3 and a<=6", "join a=d if d>=3 and d<=6 and b>=5", "r if a<=1");
        int[] sizes = {10, 10, 0, 4, 6, 10, 7, 0};
        for (int q = 0; q < sizes.length; q++) {
            due("rows of QUERY " + q, x.answer(q, NONE, 0), sizes[q]);
        }
        due("the first", x.answer(0, 0, 1), 2);
        due("the last", x.answer(0, 9, 1), 7);
        due("none behind it", x.answer(0, 10, 0), -2);
        due("the least", x.answer(3, 0, 0), 3);
        due("the greatest", x.answer(3, 3, 0), 6);
        due("none behind it", x.answer(3, 4, 0), -2);
        BatchShare full = Check.with("base 1" + ";r 1 2 3;r 1 5 6".repeat(6) + ";s 1 0;s 1 1;s 1 2;s 1 3;s 1 4;s 1 5;s 1 6;s 1 7", "join a=d show b,e");
        due("all rows joined", full.answer(0, NONE, 0), 96);
        int[] places = {0, 7, 8, 15, 16, 88, 95};
        for (int place : places) {
            due("by rows of R: row " + place, full.answer(0, place, 0), place / 8 % 2 == 0 ? 2 : 5);
            due("then of S: row " + place, full.answer(0, place, 1), place % 8);
        }
        due("none behind the last", full.answer(0, 96, 0), -2);
        BatchShare some = Check.with("base 1;r 2 0 0;r 1 5 6;s 9 9;s 2 1;s 1 2;s 2 3;s 1 4", "join a=d show b,e", "s if d<=2 show e", "s");
        int[][] joined = {{0, 1}, {0, 3}, {5, 2}, {5, 4}};
        for (int row = 0; row < 4; row++) {
            due("of those joined row " + row, some.answer(0, row, 0), joined[row][0]);
            due("of those joined row " + row, some.answer(0, row, 1), joined[row][1]);
            due("of S row " + row, some.answer(1, row, 0), row + 1);
        }
        due("none behind them", some.answer(0, 4, 0), -2);
        due("none behind them", some.answer(1, 4, 0), -2);
        due("all of S", some.answer(2, 4, 1), 4);
        BatchShare none = Check.with("base 1", "r", "s", "join a=d");
        for (int q = 0; q < 3; q++) {
            due("no rows", none.answer(q, NONE, 0), 0);
            due("no row", none.answer(q, 0, 0), -2);
        }
        BatchShare half = Check.with("base 1;r 1 1 1", "join a=d");
        due("rows of R alone", half.answer(0, NONE, 0), 0);
        BatchShare other = Check.with("base 1;s 1 1", "join a=d");
        due("rows of S alone", other.answer(0, NONE, 0), 0);
    }

    private static void parts() {
        Check.says("PARTS of a QUERY (that is not VOID, not STRUCK): of r the one of kind 0, of s that of kind 1, of join all three, each by its RANGES.");
        String[] texts = {"r if a=1", "s if d=2", "join a=d if a=1 and d=2", "r if a<0", "s if d<0", "join a=d if a<0"};
        int[] sizes = {1, 1, 3, 0, 0, 0};
        for (int i = 0; i < texts.length; i++) {
            BatchShare x = Check.with("base 1", texts[i]);
            due("PARTS of " + texts[i], x.candidates(), sizes[i]);
            x.strike(0);
            due("STRUCK " + texts[i], x.candidates(), 0);
            x.strike(0);
            due("not STRUCK " + texts[i], x.candidates(), sizes[i]);
        }
        BatchShare x = Check.with("", "join b=e if a>=1 and b<=2 and c=3 and d>4 and e<5");
        int[][] told = {{0, NONE, NONE, 1, 9, 0, 2, 3, 3, 0, 9, 0, 9}, {1, NONE, NONE, 0, 9, 0, 9, 0, 9, 5, 9, 0, 4},
            {2, 1, 4, 1, 9, 0, 2, 3, 3, 5, 9, 0, 4}};
        for (int kind = 0; kind < 3; kind++) {
            for (int what = 0; what < 13; what++) {
                due("candidate(" + kind + ", " + what + ")", x.candidate(kind, what), told[kind][what]);
            }
        }
    }

    private static void make(String base, int... makes) {
        BatchShare x = Check.with(base, "join a=d if b<=4 and e<=4");
        for (int kind = 0; kind < 3; kind++) {
            due("MAKE of kind " + kind + " of " + base, x.candidate(kind, 14), makes[kind]);
        }
    }

    private static void makes() {
        Check.says("MAKE: of kind 0 how many rows R has; of kind 1 how many S has; of kind 2 both, and ROWS of its kind 0 times ROWS of its kind 1.");
        make("base 1", 0, 0, 0);
        make("base 1;r 1 1 1", 1, 0, 1);
        make("base 1;s 1 1", 0, 1, 1);
        make("base 1;r 1 1 1;s 2 2", 1, 1, 3);
        make("base 1;r 1 5 1;s 2 2", 1, 1, 2);
        make("base 1;r 1 4 1;r 1 5 1;s 2 4;s 2 5;s 2 0", 2, 3, 5 + 2);
        make("base 1" + ";r 1 1 1".repeat(12) + ";s 1 1".repeat(8), 12, 8, 20 + 96);
        make("base 1" + ";r 1 9 1".repeat(12) + ";s 1 9".repeat(8), 12, 8, 20);
        BatchShare x = Check.with("base 99" + ";r 1 1 1".repeat(12) + ";s 1 1".repeat(8), "join a=d");
        due("ROWS of kind 2", x.candidate(2, 13), 96);
        due("ROWS of kind 0", x.candidate(0, 13), 12);
        due("ROWS of kind 1", x.candidate(1, 13), 8);
    }

    /** Whether the PART of the first QUERY, once KEPT, HOLDS the one of the second. */
    private static void holds(boolean isSo, String one, String other) {
        BatchShare x = Check.with("base 99;r 1 1 1;s 1 1", one, other);
        int kind = one.startsWith("join") ? 2 : 0;
        due("keep", x.keep(kind), 0);
        due("KEPT", x.kept(0, 0), x.candidate(kind, 0));
        Check.holds("'" + one + "', '" + other + "' holds: " + isSo, x.residue(1, 0) >= 0 == isSo);
    }

    private static void holding() {
        Check.says("A PART HOLDS another one, if it is of its kind (and COLS), and each RANGE of that is in its own.");
        for (int col = 0; col < 5; col++) {
            char c = COLS.charAt(col);
            String[] sources = {col < 3 ? "r" : "s", "join a=d"};
            for (String source : sources) {
                String kept = source + " if " + c + ">=3 and " + c + "<=6";
                holds(true, kept, source + " if " + c + ">=3 and " + c + "<=6 show " + c);
                holds(true, kept, source + " if " + c + ">=4 and " + c + "<=5");
                holds(true, kept, source + " if " + c + ">=3 and " + c + "<=3");
                holds(true, kept, source + " if " + c + "=6");
                holds(false, kept, source + " if " + c + ">=2 and " + c + "<=6");
                holds(false, kept, source + " if " + c + ">=3 and " + c + "<=7");
                holds(false, kept, source + " if " + c + "=2");
                holds(false, kept, source + " if " + c + "=7");
                holds(false, kept, source);
                holds(true, source, kept);
            }
        }
        holds(false, "r", "s");
        holds(false, "s", "r");
        holds(true, "r", "join a=d");
        holds(true, "s", "join a=d if a=3");
        holds(false, "join a=d", "r");
        holds(false, "join a=d", "join a=e");
        holds(false, "join a=d", "join b=d");
        holds(false, "r if a=3", "join a=d");
        holds(false, "r", "r if a<0");
    }

    private static void candidatesInOrder() {
        Check.says("CANDIDATES, numbers 0 and on: PARTS of QUERIES in their order (of join by kinds), each unlike one once");
        due("no QUERIES", Check.with("base 1").candidates(), 0);
        String[] alike = new String[8];
        java.util.Arrays.fill(alike, "r if a=3");
        due("eight alike", Check.with("", alike).candidates(), 1);
        due("shown COLS are not asked for", Check.with("", "r show a", "r show b").candidates(), 1);
        BatchShare x = Check.with("", "s if e=2", "join a=d if a=3 and e=2", "r if a=3", "s");
        int[] kinds = {1, 0, 2, 1};
        for (int c = 0; c < kinds.length; c++) {
            due("kind of " + c, x.candidate(c, 0), kinds[c]);
        }
        due("all, the WIDE one is the last", x.candidates(), 4);
    }

    private static void wideOnes() {
        Check.says("then of any two of these of one kind (and COLS), by the first, then the second one, the WIDE one: RANGES from the lesser least to "
            + "the greater greatest of both; each unlike all ahead of it");
        String[] joins = new String[8];
        for (int i = 0; i < 8; i++) {
            joins[i] = "join a=d if a=" + i + " and d=" + (7 - i);
        }
        BatchShare x = Check.with("", joins);
        due("as many as there can be", x.candidates(), 24 + 84);
        int candidate = 24;
        for (int one = 0; one < 8; one++) {
            for (int kind = 0; kind < 3; kind++) {
                for (int other = one + 1; other < 8; other++) {
                    String name = "the WIDE one of " + one + " and " + other + " of kind " + kind;
                    due(name, x.candidate(candidate, 0), kind);
                    due(name + " a", x.candidate(candidate, 4), kind == 1 ? 9 : other);
                    due(name + " d", x.candidate(candidate, 9), kind == 0 ? 0 : 7 - other);
                    candidate++;
                }
            }
        }
        due("none behind them", x.candidate(108, 0), -2);
        BatchShare within = Check.with("", "r if a>=3 and a<=6", "r if a>=4 and a<=5", "r if a>=3");
        due("the WIDE one of one and what it HOLDS is itself", within.candidates(), 3);
        due("two kinds have none", Check.with("", "r if a=1", "s if d=1").candidates(), 2);
        due("other COLS have none", Check.with("", "join a=d", "join a=e", "join b=d").candidates(), 5);
        due("WIDE ones of WIDE ones are none", Check.with("", "r if a=1 and b=1", "r if a=5 and b=2", "r if a=3 and b=9").candidates(), 6);
        due("alike WIDE ones once", Check.with("", "r if a=1 and b=2", "r if a=2 and b=1", "r if a=1 and b=1", "r if a=2 and b=2").candidates(), 4 + 5);
        BatchShare y = Check.with("", "r if a>=2 and a<=7 and b=3", "r if a>=1 and a<=5 and b=8 and c>=4");
        int[] told = {0, NONE, NONE, 1, 7, 3, 8, 0, 9, 0, 9, 0, 9};
        for (int what = 0; what < told.length; what++) {
            due("candidate(2, " + what + ")", y.candidate(2, what), told[what]);
        }
    }

    public static void main(String[] args) {
        sources();
        ranges();
        rangesWithoutTests();
        voids();
        alikeOnes();
        digests();
        answers();
        parts();
        makes();
        holding();
        candidatesInOrder();
        wideOnes();
        Check.close("FormEdgesTest");
    }
}
