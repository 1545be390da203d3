/** Texts that are no BASE, no QUERY: each kind of FAULT, with its place (promises 4 and 5). */
public final class FaultsTest {
    private static final int BYTE = 0;
    private static final int NUMBER = 1;
    private static final int COL = 2;
    private static final int MANY = 4;

    private static void noBase(String text, int place, int kind) {
        Check.due("base of '" + text + "'", Check.base(new BatchShare(), text), -2 - (1 + 8 * place + kind));
    }

    private static void noQuery(String text, int place, int kind) {
        Check.due("query of '" + text + "'", Check.query(new BatchShare(), text), -2 - (1 + 8 * place + kind));
    }

    private static String times(String text, int n) {
        return text.repeat(n);
    }

    private static void bytesAndWordsOfBases() {
        noBase("", 0, BYTE);
        noBase("   ", 3, BYTE);
        noBase("base", 4, BYTE);
        noBase("base  ", 6, BYTE);
        noBase("bas 1", 0, BYTE);
        noBase("basee 1", 0, BYTE);
        noBase("Base 1", 0, BYTE);
        noBase(";base 1", 0, BYTE);
        noBase("base;", 4, BYTE);
        noBase("base -1", 5, BYTE);
        noBase("base x", 5, BYTE);
        noBase("base 1;", 7, BYTE);
        noBase("base 1 ; ", 9, BYTE);
        noBase("base 1;;r 1 1 1", 7, BYTE);
        noBase("base 1 2", 7, BYTE);
        noBase("base 1 r 1 1 1", 7, BYTE);
        noBase("base 1;rr 1 1 1", 7, BYTE);
        noBase("base 1;join 1", 7, BYTE);
        noBase("base 1;r 1 1", 12, BYTE);
        noBase("base 1;r 1 1;r 1 1 1", 12, BYTE);
        noBase("base 1;r 1 1 1 1", 15, BYTE);
        noBase("base 1;s 1 1 1", 13, BYTE);
        noBase("base 1;s 1,1", 10, BYTE);
        noBase("base 1;s 1 1\u0000", 12, BYTE);
        noBase("base 1;s 1 1\u00ff", 12, BYTE);
        noBase("base 1;s 1\t1", 10, BYTE);
        noBase("base 1/", 6, BYTE);
        noBase("base 1:", 6, BYTE);
        noBase("`", 0, BYTE);
        noBase("{", 0, BYTE);
    }

    private static void numbersOfBases() {
        noBase("base 100", 5, NUMBER);
        noBase("base 99999", 5, NUMBER);
        noBase("base 000001", 5, NUMBER);
        noBase("base 99999999999999999999", 5, NUMBER);
        noBase("base 4294967297", 5, NUMBER);
        noBase("base 1;r 10 1 1", 9, NUMBER);
        noBase("base 1;r 1 10 1", 11, NUMBER);
        noBase("base 1;r 1 1 10", 13, NUMBER);
        noBase("base 1;s 1 000009", 11, NUMBER);
        noBase("base 1;r 111", 9, NUMBER);
        noBase("base 100 x", 5, NUMBER);
    }

    private static void tooMuchInBases() {
        noBase("r 1 1 1", 0, MANY);
        noBase(" s 1 1;base 1", 1, MANY);
        noBase("r", 0, MANY);
        noBase("base 1;base 1", 7, MANY);
        noBase("base 1;  base", 9, MANY);
        noBase("base 1;s 1 1;base 1", 13, MANY);
        noBase("base 1" + times(";r 1 1 1", 13), 7 + 8 * 12, MANY);
        noBase("base 1" + times(";r 1 1 1", 12) + ";r x", 7 + 8 * 12, MANY);
        noBase("base 1" + times(";s 1 1", 9), 7 + 6 * 8, MANY);
        noBase("base 1" + times(";s 1 1", 8) + times(";r 1 1 1", 13), 7 + 6 * 8 + 8 * 12, MANY);
        noBase("base 1" + times(";r 1 1 1", 12) + ";q", 7 + 8 * 12, BYTE);
        noBase("base 1" + times(";r1 1 1", 40), 7 + 7 * 12, MANY);
    }

    private static void bytesAndWordsOfQueries() {
        noQuery("", 0, BYTE);
        noQuery("  ", 2, BYTE);
        noQuery("q", 0, BYTE);
        noQuery("rs", 0, BYTE);
        noQuery("rz", 0, BYTE);
        noQuery("r if az<1", 5, BYTE);
        noQuery("rif a<1", 0, BYTE);
        noQuery("R", 0, BYTE);
        noQuery("if a<1", 0, BYTE);
        noQuery("r s", 2, BYTE);
        noQuery("r;", 1, BYTE);
        noQuery("r if", 4, BYTE);
        noQuery("r if ", 5, BYTE);
        noQuery("r if if", 5, BYTE);
        noQuery("r ifa<1", 2, BYTE);
        noQuery("r if ab<1", 5, BYTE);
        noQuery("r if f<1", 5, BYTE);
        noQuery("r if 1<1", 5, BYTE);
        noQuery("r if a", 6, BYTE);
        noQuery("r if a 1", 7, BYTE);
        noQuery("r if a<", 7, BYTE);
        noQuery("r if a<b", 7, BYTE);
        noQuery("r if a<>1", 7, BYTE);
        noQuery("r if a=>1", 7, BYTE);
        noQuery("r if a==1", 7, BYTE);
        noQuery("r if a< =1", 8, BYTE);
        noQuery("r if a<-1", 7, BYTE);
        noQuery("r if a<1 and", 12, BYTE);
        noQuery("r if a<1 and if b<1", 13, BYTE);
        noQuery("r if a<1 or b<1", 9, BYTE);
        noQuery("r if a<1 b<1", 9, BYTE);
        noQuery("r if a<1,b<1", 8, BYTE);
        noQuery("r and a<1", 2, BYTE);
        noQuery("r show", 6, BYTE);
        noQuery("r show ,a", 7, BYTE);
        noQuery("r show a,", 9, BYTE);
        noQuery("r show a b", 9, BYTE);
        noQuery("r show aa", 7, BYTE);
        noQuery("r show a and b", 9, BYTE);
        noQuery("join", 4, BYTE);
        noQuery("join a", 6, BYTE);
        noQuery("join a d", 7, BYTE);
        noQuery("join a<d", 6, BYTE);
        noQuery("join a=", 7, BYTE);
        noQuery("join ad", 5, BYTE);
        noQuery("join a=d,b=e", 8, BYTE);
        noQuery("join g=d", 5, BYTE);
        noQuery("join a=9", 7, BYTE);
    }

    private static void numbersAndColsOfQueries() {
        noQuery("r if a<10", 7, NUMBER);
        noQuery("r if a<= 000000", 9, NUMBER);
        noQuery("r if a<10 and q", 7, NUMBER);
        noQuery("r if d<1", 5, COL);
        noQuery("r if e", 5, COL);
        noQuery("r if a<1 and  e<1", 14, COL);
        noQuery("s if a<1", 5, COL);
        noQuery("s if c<1", 5, COL);
        noQuery("r show d", 7, COL);
        noQuery("r show a , e", 11, COL);
        noQuery("s show b", 7, COL);
        noQuery("join d=a", 5, COL);
        noQuery("join e=d", 5, COL);
        noQuery("join a=b", 7, COL);
        noQuery("join c = a", 9, COL);
    }

    private static void tooMuchInQueries() {
        String twelve = "r if a<9" + times(" and a<9", 11);
        noQuery(twelve + " and a<9", 8 * 12 + 5, MANY);
        noQuery(twelve + " if a<9", 8 * 12 + 4, MANY);
        noQuery(twelve + " show a if  a", 8 * 12 + 12, MANY);
        noQuery(twelve + " and d<9", 8 * 12 + 5, COL);
        noQuery(twelve + " and f<9", 8 * 12 + 5, BYTE);
        noQuery(twelve + " and", 8 * 12 + 4, BYTE);
        noQuery("r show a,b,c,a,b,c", 17, MANY);
        noQuery("s show d,d,d,d,d,  e", 19, MANY);
        noQuery("s show d,d,d,d,d,a", 17, COL);
        noQuery("s show d,d,d,d,d,z", 17, BYTE);
        noQuery("s show d show d,d,d,d,d,d", 24, MANY);
    }

    private static void whatIsNoFault() {
        Check.due("zeros ahead", Check.base(new BatchShare(), "base 00099;r 00009 0 1"), 1);
        Check.due("no blanks", Check.base(new BatchShare(), "base1;r1 2 3;s4 5"), 2);
        Check.due("blanks all about", Check.base(new BatchShare(), "  base  1  ;  r  1  2  3  ;s 4 5   "), 2);
        Check.due("only MEMORY", Check.base(new BatchShare(), "base 0"), 0);
        Check.due("12 and 8 rows", Check.base(new BatchShare(), "base 1" + times(";r 1 1 1", 12) + times(";s 1 1", 8)), 20);
        Check.due("12 TESTS", Check.query(new BatchShare(), "r if a<9" + times(" and a<9", 6) + times(" if b>0", 5)), 0);
        Check.due("5 COLS twice", Check.query(new BatchShare(), "join a=d show a,b,c,d,e show e,d,c,b,a"), 0);
        Check.due("words behind numbers", Check.query(new BatchShare(), "r if a<1and b>2if c=3show a"), 0);
        Check.due("blanks in a QUERY", Check.query(new BatchShare(), " join  a  =  d  if  a  <=  3  show  a  ,  e  "), 0);
        Check.due("no blanks in a QUERY", Check.query(new BatchShare(), "join a=d if a<=3and e>=00001show a,e"), 0);
        Check.due("400 bytes", Check.base(new BatchShare(), "base 7" + times(" ", 394)), 0);
    }

    public static void main(String[] args) {
        bytesAndWordsOfBases();
        numbersOfBases();
        tooMuchInBases();
        bytesAndWordsOfQueries();
        numbersAndColsOfQueries();
        tooMuchInQueries();
        whatIsNoFault();
        Check.close("FaultsTest");
    }
}
