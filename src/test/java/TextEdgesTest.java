/** Part I of the document, sentence by sentence: the edges of texts. Each method quotes the words it stands for. */
public final class TextEdgesTest {
    private static final int BYTE = 0;
    private static final int NUMBER = 1;
    private static final int COL = 2;
    private static final int MANY = 4;
    private static final String[] SIGNS = {"<", "<=", "=", ">=", ">"};

    private static int fault(int place, int kind) {
        return -2 - (1 + 8 * place + kind);
    }

    private static void base(String text, int due) {
        Check.due("base of '" + text + "'", Check.base(new BatchShare(), text), due);
    }

    private static void query(String text, int due) {
        Check.due("query of '" + text + "'", Check.query(new BatchShare(), text), due);
    }

    private static void noBase(String text, int place, int kind) {
        base(text, fault(place, kind));
    }

    private static void noQuery(String text, int place, int kind) {
        query(text, fault(place, kind));
    }

    private static String blanks(int n) {
        return " ".repeat(n);
    }

    private static void basesOf400Bytes() {
        Check.says("A BASE is a text of at most 400 bytes");
        String text = "base 7;r 1 2" + blanks(387) + "9";
        Check.due("bytes", text.length(), 400);
        BatchShare x = new BatchShare();
        Check.due("base of 400 bytes", Check.base(x, text), 1);
        Check.due("its last byte", x.cell(0, 0, 2), 9);
        noBase("base 7" + blanks(393) + "x", 399, BYTE);
        noBase("base" + blanks(396), 400, BYTE);
        noBase("", 0, BYTE);
        base("base 7", 0);
    }

    private static void clauses() {
        Check.says("CLAUSE { ; CLAUSE }, 40 at most");
        String all = "base 7" + ";r 1 1 1".repeat(12) + ";s 1 1".repeat(8);
        base("base 7", 0);
        base(all, 20);
        noBase(all + ";r 1 1 1", all.length() + 1, MANY);
        noBase(all + ";s 1 1", all.length() + 1, MANY);
        noBase(all + ";base 7", all.length() + 1, MANY);
        noBase(all + ";", all.length() + 1, BYTE);
        noBase("base 7" + ";s1 1".repeat(39), 7 + 5 * 8, MANY);
        noBase("base 7" + ";s1 1".repeat(40), 7 + 5 * 8, MANY);
    }

    private static void memory() {
        Check.says("base NUMBER (MEMORY 0 to 99; once, the first CLAUSE)");
        int[] fine = {0, 1, 9, 10, 98, 99};
        for (int memory : fine) {
            Check.due("MEMORY " + memory, Check.with("base " + memory).count(0), memory);
        }
        noBase("base 100", 5, NUMBER);
        noBase("base 355", 5, NUMBER);
        noBase("base -1", 5, BYTE);
        noBase("base 7;base 7", 7, MANY);
        noBase("base 7;s 1 1;base 8", 13, MANY);
        noBase("r 1 1 1;base 7", 0, MANY);
        noBase("s 1 1;base 7", 0, MANY);
        noBase("s 1 1", 0, MANY);
    }

    private static void rowsOfR() {
        Check.says("r NUMBER NUMBER NUMBER (a row of R: its COLS a, b, c, 0 to 9 each; 12 rows at most)");
        BatchShare x = Check.with("base 1;r 0 9 0;r 9 0 9");
        for (int col = 0; col < 3; col++) {
            Check.due("COL " + col + " of row 0", x.cell(0, 0, col), col == 1 ? 9 : 0);
            Check.due("COL " + col + " of row 1", x.cell(0, 1, col), col == 1 ? 0 : 9);
        }
        noBase("base 1;r 10 0 0", 9, NUMBER);
        noBase("base 1;r 0 10 0", 11, NUMBER);
        noBase("base 1;r 0 0 10", 13, NUMBER);
        noBase("base 1;r", 8, BYTE);
        noBase("base 1;r 0 0", 12, BYTE);
        noBase("base 1;r 0 0 0 0", 15, BYTE);
        for (int rows = 0; rows <= 12; rows++) {
            base("base 1" + ";r 0 0 0".repeat(rows), rows);
        }
        noBase("base 1" + ";r 0 0 0".repeat(13), 7 + 8 * 12, MANY);
        base("base 1" + ";r 0 0 0".repeat(12) + ";s 0 0", 13);
    }

    private static void rowsOfS() {
        Check.says("s NUMBER NUMBER (a row of S: its COLS d, e, 0 to 9 each; 8 rows at most)");
        BatchShare x = Check.with("base 1;s 0 9;s 9 0");
        Check.due("d of row 0", x.cell(1, 0, 3), 0);
        Check.due("e of row 0", x.cell(1, 0, 4), 9);
        Check.due("d of row 1", x.cell(1, 1, 3), 9);
        Check.due("e of row 1", x.cell(1, 1, 4), 0);
        noBase("base 1;s 10 0", 9, NUMBER);
        noBase("base 1;s 0 10", 11, NUMBER);
        noBase("base 1;s", 8, BYTE);
        noBase("base 1;s 0", 10, BYTE);
        noBase("base 1;s 0 0 0", 13, BYTE);
        for (int rows = 0; rows <= 8; rows++) {
            base("base 1" + ";s 0 0".repeat(rows), rows);
        }
        noBase("base 1" + ";s 0 0".repeat(9), 7 + 6 * 8, MANY);
        base("base 1" + ";s 0 0".repeat(8) + ";r 0 0 0", 9);
    }

    private static void order() {
        Check.says("Rows in the order told.");
        StringBuilder text = new StringBuilder("base 1");
        for (int i = 0; i < 8; i++) {
            text.append(";s " + i + " 1;r " + (9 - i) + " 1 1");
        }
        BatchShare x = Check.with(text.toString());
        for (int i = 0; i < 8; i++) {
            Check.due("row " + i + " of R", x.cell(0, i, 0), 9 - i);
            Check.due("row " + i + " of S", x.cell(1, i, 3), i);
        }
    }

    private static void queries() {
        Check.says("QUERIES 0 to 7: texts likewise: SOURCE { STEP }.");
        BatchShare x = new BatchShare();
        for (int q = 0; q < 8; q++) {
            Check.due("QUERY " + q, Check.query(x, "r if a=" + q), q);
        }
        Check.due("no ninth", Check.query(x, "r"), BatchShare.NONE);
        String text = "r if a=3 and a<" + blanks(384) + "9";
        Check.due("bytes", text.length(), 400);
        query(text, 0);
        noQuery("r if a=3 and a<" + blanks(385), 400, BYTE);
        noQuery("r" + blanks(398) + "r", 399, BYTE);
        noQuery("", 0, BYTE);
        query("r", 0);
        query("r" + " show a".repeat(57), 0);
        noQuery("r" + " show a".repeat(56) + " show d", 1 + 7 * 57 - 1, COL);
    }

    private static void joins() {
        Check.says("join COL = COL (one of a b c, then one of d e: rows of R, of S with like numbers there, joined)");
        for (char one = 'a'; one <= 'z'; one++) {
            for (char other = 'a'; other <= 'z'; other++) {
                String text = "join " + one + "=" + other;
                if (one > 'c') {
                    noQuery(text, 5, one > 'e' ? BYTE : COL);
                } else if (other > 'e' || other < 'd') {
                    noQuery(text, 7, other > 'e' ? BYTE : COL);
                } else {
                    query(text, 0);
                }
            }
        }
        BatchShare x = Check.with("base 1;r 1 2 3;s 3 1", "join a=d", "join a=e", "join b=d", "join b=e", "join c=d", "join c=e");
        int[] rows = {0, 1, 0, 0, 1, 0};
        for (int q = 0; q < rows.length; q++) {
            Check.due("rows of QUERY " + q, x.answer(q, -1, 0), rows[q]);
        }
    }

    private static void shown(String text, int... cols) {
        BatchShare x = Check.with("", text);
        Check.due("how many " + text, x.form(0, 13), cols.length);
        for (int i = 0; i < 5; i++) {
            Check.due("shown " + i + " of " + text, x.form(0, 14 + i), i < cols.length ? cols[i] : -1);
        }
    }

    private static void shows() {
        Check.says("show COL { , COL } (5 at most; the last told holds; without one all COLS of the SOURCE, in their order)");
        shown("r show b", 1);
        shown("r show c,b,a,b,c", 2, 1, 0, 1, 2);
        shown("s show e,e,e,e,e", 4, 4, 4, 4, 4);
        noQuery("r show c,b,a,b,c,a", 17, MANY);
        noQuery("s show d show e,e,e,e,e,e", 24, MANY);
        noQuery("r show a,a,a,a,a,a show b", 17, MANY);
        noQuery("r show", 6, BYTE);
        noQuery("r show ,", 7, BYTE);
        shown("r show a,b,c,a,b show c,b,a,c,b", 2, 1, 0, 2, 1);
        shown("r show a,b,c,a,b show c", 2);
        shown("r show c if a=1 show a,b if b=1", 0, 1);
        shown("r", 0, 1, 2);
        shown("s", 3, 4);
        shown("join c=e", 0, 1, 2, 3, 4);
        shown("join c=e if a=0 and b<0", 0, 1, 2, 3, 4);
    }

    private static void tests() {
        Check.says("TEST: COL SIGN NUMBER (0 to 9), SIGN one of < <= = >= >; 12 at most of all STEPS.");
        for (String sign : SIGNS) {
            for (int number = 0; number <= 9; number++) {
                query("r if a" + sign + number, 0);
            }
            noQuery("r if a" + sign + "10", 6 + sign.length(), NUMBER);
            noQuery("r if a" + sign, 6 + sign.length(), BYTE);
            noQuery("r if a" + sign + "-1", 6 + sign.length(), BYTE);
        }
        noQuery("r if a=<1", 7, BYTE);
        noQuery("r if a=>1", 7, BYTE);
        noQuery("r if a==1", 7, BYTE);
        noQuery("r if a<<1", 7, BYTE);
        noQuery("r if a<==1", 8, BYTE);
        noQuery("r if a><1", 7, BYTE);
        noQuery("r if a!1", 6, BYTE);
        noQuery("r if a!=1", 6, BYTE);
        noQuery("r if a;1", 6, BYTE);
        noQuery("r if a?1", 6, BYTE);
        String one = "r if a<9" + " and b<9".repeat(11);
        String each = "r" + " if c<9".repeat(12);
        query(one, 0);
        query(one + " show a", 0);
        query(each, 0);
        noQuery(one + " and b<9", 8 * 12 + 5, MANY);
        noQuery(one + " if b<9", 8 * 12 + 4, MANY);
        noQuery(each + " if c<9", 7 * 12 + 5, MANY);
        noQuery(each + " and c<9", 7 * 12 + 6, MANY);
        noQuery(each + " show a,b if c<9", 7 * 12 + 14, MANY);
    }

    private static void colsOfSources() {
        Check.says("COLS of a SOURCE: of r a b c, of s d e, of join a b c d e; told as 0 to 4.");
        String[] sources = {"r", "s", "join a=d"};
        String[] own = {"abc", "de", "abcde"};
        for (int i = 0; i < 3; i++) {
            for (char col = 'a'; col <= 'z'; col++) {
                boolean isOwn = own[i].indexOf(col) >= 0;
                int kind = col > 'e' ? BYTE : COL;
                int behind = sources[i].length();
                query(sources[i] + " if " + col + "=1", isOwn ? 0 : fault(behind + 4, kind));
                query(sources[i] + " show " + col, isOwn ? 0 : fault(behind + 6, kind));
                if (isOwn) {
                    BatchShare x = Check.with("", sources[i] + " if " + col + "=1 show " + col);
                    Check.due("told as", x.form(0, 14), col - 'a');
                    Check.due("least", x.form(0, 3 + 2 * (col - 'a')), 1);
                    Check.due("greatest", x.form(0, 4 + 2 * (col - 'a')), 1);
                }
            }
        }
    }

    private static void numbers() {
        Check.says("NUMBER: 1 to 5 digits, as far as digits go on.");
        Check.due("1 digit", Check.with("base 7").count(0), 7);
        Check.due("5 digits", Check.with("base 00079").count(0), 79);
        Check.due("5 digits", Check.with("base 00000").count(0), 0);
        Check.due("5 digits of a TEST", Check.with("", "r if a=00009").form(0, 3), 9);
        noBase("base 000000", 5, NUMBER);
        noBase("base 000007", 5, NUMBER);
        noBase("base " + "0".repeat(395), 5, NUMBER);
        noBase("base " + "9".repeat(395), 5, NUMBER);
        noBase("base 65543", 5, NUMBER);
        noBase("base 4294967303", 5, NUMBER);
        noBase("base 18446744073709551623", 5, NUMBER);
        noBase("base 1000001", 5, NUMBER);
        noBase("base 1;r 111", 9, NUMBER);
        noBase("base 1;r 1 11", 11, NUMBER);
        noBase("base 1;r1 000001 1", 10, NUMBER);
        noQuery("r if a<000001", 7, NUMBER);
        noQuery("r if a<65537", 7, NUMBER);
        noBase("base ", 5, BYTE);
        noBase("base 7x", 6, BYTE);
        noBase("base 7/", 6, BYTE);
        noBase("base 7:", 6, BYTE);
        noBase("base /", 5, BYTE);
        noBase("base :", 5, BYTE);
        base("base1;r1 1 1;s1 1", 2);
    }

    private static void words() {
        Check.says("Words are small letters, as far as these go on.");
        noBase("bases 7", 0, BYTE);
        noBase("bas 7", 0, BYTE);
        noBase("BASE 7", 0, BYTE);
        noBase("Base 7", 0, BYTE);
        noBase("baseA 7", 4, BYTE);
        noBase("base`7", 4, BYTE);
        noBase("base{7", 4, BYTE);
        noBase("basez7", 0, BYTE);
        noBase("base 7;ra 1 1 1", 7, BYTE);
        noBase("base 7;sz 1 1", 7, BYTE);
        noQuery("rs", 0, BYTE);
        noQuery("rif a<1", 0, BYTE);
        noQuery("joina=d", 0, BYTE);
        noQuery("r iff a<1", 2, BYTE);
        noQuery("r i a<1", 2, BYTE);
        noQuery("r shows a", 2, BYTE);
        noQuery("r sho a", 2, BYTE);
        noQuery("r showa", 2, BYTE);
        noQuery("r if a<1 an b<1", 9, BYTE);
        noQuery("r if a<1 andb<1", 9, BYTE);
        noQuery("r if aa<1", 5, BYTE);
        noQuery("r if az<1", 5, BYTE);
        noQuery("r if aA<1", 6, BYTE);
        noQuery("r if `<1", 5, BYTE);
        noQuery("r show {", 7, BYTE);
        query("r if a<1and b<1if c<1show a", 0);
    }

    private static void blanksBetween() {
        Check.says("Blanks (32) stand between as one likes.");
        base("   base   7   ;   r   1   2   3   ;   s   4   5   ", 2);
        base("base7;r1 2 3;s4 5", 2);
        query("   join   a   =   d   if   a   <=   3   and   b   =   4   show   a   ,   e   ", 0);
        query("join a=d if a<=3and b=4show a,e", 0);
        int[] others = {0, 1, 9, 10, 11, 12, 13, 31, 33, 95, 127, 128, 160, 255};
        for (int other : others) {
            noBase((char) other + "base 7", 0, BYTE);
            noBase("base" + (char) other + "7", 4, BYTE);
            noBase("base 7" + (char) other, 6, BYTE);
            noQuery("r" + (char) other, 1, BYTE);
            noQuery("r if a" + (char) other + "<1", 6, BYTE);
        }
        noBase("ba se 7", 0, BYTE);
        noBase("base 1 2", 7, BYTE);
        noQuery("r if a< =1", 8, BYTE);
        noQuery("r if a> =1", 8, BYTE);
    }

    private static void firstAlongTheText() {
        Check.says("FAULTS, the first along the text, 1 + 8 * its place");
        noBase("base 100;r 10 10 10;q", 5, NUMBER);
        noBase("base 1;r 1 10 10", 11, NUMBER);
        noBase("r x;base 100", 0, MANY);
        noBase("base 1;base 100", 7, MANY);
        noBase("base 1" + ";s 1 1".repeat(8) + ";s 10", 7 + 6 * 8, MANY);
        noQuery("join d=a", 5, COL);
        noQuery("r if d<10", 5, COL);
        noQuery("r if a<10 show d", 7, NUMBER);
        noQuery("r show d if a<10", 7, COL);
        noQuery("r show a,a,a,a,a,a,d", 17, MANY);
        noQuery("q if", 0, BYTE);
    }

    /** Each beginning of a text that is fine: -1 where it is fine, too, else the place of its FAULT of kind 0. */
    private static void ends() {
        Check.says("0 a byte or word that can't stand there, or the end (behind the last byte)");
        String base = "base 7;r 1 2 3;s 4 5";
        int[] ofBase = {0, 0, 0, 0, 4, 5, -1, 7, 8, 9, 10, 11, 12, 13, -1, 15, 16, 17, 18, 19, -1};
        for (int n = 0; n <= base.length(); n++) {
            int rows = n < 14 ? 0 : n < 20 ? 1 : 2;
            base(base.substring(0, n), ofBase[n] < 0 ? rows : fault(ofBase[n], BYTE));
        }
        String query = "join b=e if c>=7 and d<3 show a,e";
        int[] ofQuery = {0, 0, 0, 0, 4, 5, 6, 7, -1, -1, 9, 11, 12, 13, 14, 15, -1, -1, 17, 17, 20, 21, 22, 23, -1, -1, 25, 25, 25, 29, 30,
            -1, 32, -1};
        for (int n = 0; n <= query.length(); n++) {
            query(query.substring(0, n), ofQuery[n] < 0 ? 0 : fault(ofQuery[n], BYTE));
        }
    }

    /** Where a sign of a kind stands in place of each sign of a text. */
    private static void wrongBytes() {
        Check.says("0 a byte or word that can't stand there");
        noBase("base ;", 5, BYTE);
        noBase("base 7,r 1 1 1", 6, BYTE);
        noBase("base 7;;", 7, BYTE);
        noBase("base 7;7", 7, BYTE);
        noBase("base 7;if", 7, BYTE);
        noBase("base 7;r;", 8, BYTE);
        noBase("base 7;r 1,1,1", 10, BYTE);
        noBase("base 7;r 1 1 r", 13, BYTE);
        noBase("base base", 5, BYTE);
        noBase("7", 0, BYTE);
        noBase(";", 0, BYTE);
        noQuery("=", 0, BYTE);
        noQuery("7", 0, BYTE);
        noQuery("base 7", 0, BYTE);
        noQuery("a", 0, BYTE);
        noQuery("r r", 2, BYTE);
        noQuery("r a<1", 2, BYTE);
        noQuery("r and a<1", 2, BYTE);
        noQuery("r ,", 2, BYTE);
        noQuery("r;s", 1, BYTE);
        noQuery("join =d", 5, BYTE);
        noQuery("join a,d", 6, BYTE);
        noQuery("join a d", 7, BYTE);
        noQuery("join ad", 5, BYTE);
        noQuery("join a=d=e", 8, BYTE);
        noQuery("join 1=d", 5, BYTE);
        noQuery("join if a<1", 5, BYTE);
        noQuery("r if <1", 5, BYTE);
        noQuery("r if show a", 5, BYTE);
        noQuery("r if a,1", 6, BYTE);
        noQuery("r if a 1", 7, BYTE);
        noQuery("r if a1", 6, BYTE);
        noQuery("r if a<b", 7, BYTE);
        noQuery("r if a<1 a<1", 9, BYTE);
        noQuery("r if a<1,a<1", 8, BYTE);
        noQuery("r if a<1 and and", 13, BYTE);
        noQuery("r show a b", 9, BYTE);
        noQuery("r show a,,b", 9, BYTE);
        noQuery("r show a and b", 9, BYTE);
        noQuery("r show 1", 7, BYTE);
        noQuery("r show show a", 7, BYTE);
    }

    private static void wrongNumbers() {
        Check.says("1 a NUMBER of more digits, or not as told");
        noBase("base 100", 5, NUMBER);
        noBase("base 000099", 5, NUMBER);
        noBase("base   100", 7, NUMBER);
        noBase("base 1;r 10 1 1", 9, NUMBER);
        noBase("base 1;s 1 10", 11, NUMBER);
        noQuery("s if e>10", 7, NUMBER);
        noQuery("s if e>=  000000", 10, NUMBER);
        noQuery("s if e>1 and d<99", 15, NUMBER);
    }

    private static void wrongCols() {
        Check.says("2 a COL that is not of the SOURCE (of join: not one of those), at its byte");
        noQuery("r if   d<1", 7, COL);
        noQuery("r if a<1 and e<1", 13, COL);
        noQuery("s if a<1", 5, COL);
        noQuery("s show d,  c", 11, COL);
        noQuery("join  e=d", 6, COL);
        noQuery("join d=d", 5, COL);
        noQuery("join a=c", 7, COL);
        noQuery("join a=  a", 9, COL);
    }

    private static void tooMany() {
        Check.says("4 one CLAUSE, TEST or shown COL too many, a second base, another CLAUSE ahead of it, a thirteenth row of R, a ninth of S "
            + "(at its first byte)");
        noBase("base 1;   base", 10, MANY);
        noBase("   r", 3, MANY);
        noBase("   s;", 3, MANY);
        noBase("base 1" + ";r1 1 1".repeat(12) + ";   r", 6 + 7 * 12 + 4, MANY);
        noBase("base 1" + ";s1 1".repeat(8) + ";   s 99 99", 6 + 5 * 8 + 4, MANY);
        noQuery("r if a<9" + " and b<9".repeat(11) + " and   c", 8 * 12 + 7, MANY);
        noQuery("r show a,a,a,a,a,   a", 20, MANY);
    }

    private static void leastOfOnePlace() {
        Check.says("Of one place the least.");
        String twelve = "r if a<9" + " and b<9".repeat(11) + " and ";
        noQuery(twelve, 8 * 12 + 5, BYTE);
        noQuery(twelve + "f<1", 8 * 12 + 5, BYTE);
        noQuery(twelve + "1", 8 * 12 + 5, BYTE);
        noQuery(twelve + "d<1", 8 * 12 + 5, COL);
        noQuery(twelve + "c<1", 8 * 12 + 5, MANY);
        noQuery("r show a,a,a,a,a,", 17, BYTE);
        noQuery("r show a,a,a,a,a,f", 17, BYTE);
        noQuery("r show a,a,a,a,a,e", 17, COL);
        noQuery("r show a,a,a,a,a,c", 17, MANY);
    }

    public static void main(String[] args) {
        basesOf400Bytes();
        clauses();
        memory();
        rowsOfR();
        rowsOfS();
        order();
        queries();
        joins();
        shows();
        tests();
        colsOfSources();
        numbers();
        words();
        blanksBetween();
        firstAlongTheText();
        ends();
        wrongBytes();
        wrongNumbers();
        wrongCols();
        tooMany();
        leastOfOnePlace();
        Check.close("TextEdgesTest");
    }
}
