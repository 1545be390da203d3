/** Part II of the document, its second half, sentence by sentence: the edges of what is KEPT, of costs, and of ACTS. */
public final class ActEdgesTest {
    private static final int NONE = BatchShare.NONE;
    /** Rows of R with a = 0 to 6, each wanted by one QUERY alone. */
    private static final String SEVEN_ROWS = ";r 0 0 0;r 1 0 0;r 2 0 0;r 3 0 0;r 4 0 0;r 5 0 0;r 6 0 0";
    private static final String[] SEVEN = {"r if a=0", "r if a=1", "r if a=2", "r if a=3", "r if a=4", "r if a=5", "r if a=6"};

    private static void due(String call, long got, long want) {
        Check.due(call, got, want);
    }

    private static BatchShare sixKept() {
        BatchShare x = Check.with("base 50" + SEVEN_ROWS, SEVEN);
        for (int c = 0; c < 6; c++) {
            due("keep(" + c + ")", x.keep(c), 0);
        }
        return x;
    }

    private static void sixAreKept() {
        Check.says("KEPT 0 to 5 are PARTS: each with ROWS as they were when it was made, USED (a time), STALE or not.");
        BatchShare x = sixKept();
        due("the first", x.kept(0, 3), 0);
        due("the sixth", x.kept(5, 3), 5);
        due("no seventh", x.kept(6, 3), -2);
        due("keep", x.keep(6), 1);
        due("still six", x.count(5), 6);
        due("no seventh", x.kept(6, 3), -2);
        x.put(0, 6, 1, 1);
        x.remove(0, 2);
        due("ROWS as they were", x.kept(5, 13), 1);
        due("ROWS as they were", x.kept(1, 13), 1);
        due("STALE", x.kept(5, 15), 1);
        due("STALE", x.kept(1, 15), 1);
        due("not STALE", x.kept(2, 15), 0);
    }

    private static void batches() {
        Check.says("BATCH: what all QUERIES that are not STRUCK COST, together; a VOID one 0");
        due("no QUERIES", Check.with("base 9" + SEVEN_ROWS).batch(), 0);
        due("no rows", Check.with("base 9", "r", "s", "join a=d").batch(), 0);
        BatchShare x = Check.with("base 9" + SEVEN_ROWS + ";s 1 1", "r if a<0", "r", "s", "join a=d", "join a=d if a<0");
        due("VOID ones cost 0", x.batch(), 7 + 1 + (7 + 1 + 7));
        due("VOID", x.costs(0), 0);
        due("VOID", x.costs(4), 0);
        x.strike(0);
        x.strike(1);
        x.strike(3);
        due("STRUCK ones cost nothing", x.batch(), 1);
        x.strike(2);
        due("all but a VOID one are STRUCK", x.batch(), 0);
        x.strike(4);
        due("all are STRUCK", x.batch(), 0);
    }

    private static void costsOfOne() {
        Check.says("A PART of kind 0, 1 COSTS MAKE, or ROWS of one KEPT, not STALE, that HOLDS it, if these are fewer");
        BatchShare x = Check.with("base 50" + SEVEN_ROWS, "r if a<=6", "r if a<=5", "r if a=3");
        x.keep(0);
        due("as many as MAKE are not fewer", x.serves(2, 0), -2);
        due("MAKE", x.costs(2), 7);
        x.keep(1);
        due("one fewer", x.serves(2, 0), 1);
        due("ROWS", x.costs(2), 6);
        due("does not HOLD it", x.serves(0, 0), -2);
        x.put(0, 9, 9, 9);
        due("MAKE is one more now", x.serves(0, 0), 0);
        due("ROWS", x.costs(0), 7);
        x.put(0, 5, 9, 9);
        due("STALE", x.serves(2, 0), -2);
        due("MAKE", x.costs(2), 9);
        BatchShare s = Check.with("base 50;s 1 1;s 2 2;s 3 3", "s if d<=3", "s if d<=2", "s if d=1");
        s.keep(0);
        due("as many as MAKE are not fewer", s.serves(2, 1), -2);
        s.keep(1);
        due("one fewer", s.serves(2, 1), 1);
        due("ROWS", s.costs(2), 2);
        BatchShare none = Check.with("base 50" + SEVEN_ROWS, "r if a=9", "r if a=9 and b=3");
        none.keep(0);
        due("0 ROWS", none.costs(1), 0);
        due("0 ROWS", none.serves(1, 0), 0);
        BatchShare empty = Check.with("base 50", "r");
        empty.keep(0);
        due("0 is not fewer than 0", empty.serves(0, 0), -2);
    }

    private static void theLeastTheFirst() {
        Check.says("(the least so, of several the first KEPT)");
        BatchShare x = Check.with("base 50" + SEVEN_ROWS, "r if a<=4", "r if a<=3", "r if a<=3 and b<=8", "r if a<=2 and b<=7", "r if a=1 and b<=5");
        x.keep(0);
        due("the only one", x.serves(4, 0), 0);
        x.keep(1);
        due("the least", x.serves(4, 0), 1);
        x.keep(2);
        due("of two the first", x.serves(4, 0), 1);
        due("the other one's own", x.serves(2, 0), 1);
        x.keep(3);
        due("the least", x.serves(4, 0), 3);
        x.forget(1);
        due("the second is the first now", x.serves(2, 0), 1);
        due("the least is one nearer", x.serves(4, 0), 2);
    }

    private static void joinsByKept() {
        Check.says("one of kind 2 by one KEPT likewise ROWS of that (the least, the first)");
        // Both rows of R and all three of S join: 6 rows. Of the second and third QUERIES 3 each, of the last one 1.
        String base = "base 50;r 1 0 5;r 1 4 0;s 1 0;s 1 3;s 1 4";
        BatchShare x = Check.with(base, "join a=d", "join a=d if b<=3", "join a=d if c>=3", "join a=d if b<=2 and c>=4 and e<=3");
        due("apart", x.costs(3), 2 + 3 + 1 * 2);
        x.keep(2);
        due("kind 2", x.kept(0, 0), 2);
        due("6 ROWS", x.costs(3), 6);
        due("6 ROWS", x.costs(0), 6);
        x.keep(6);
        due("3 ROWS", x.costs(3), 3);
        due("the least", x.serves(3, 2), 1);
        x.keep(4);
        due("another kind 2", x.kept(2, 0), 2);
        due("3 ROWS, too", x.kept(2, 13), 3);
        due("the first", x.serves(3, 2), 1);
        due("its own alone", x.serves(1, 2), 2);
        x.forget(1);
        due("the first now", x.serves(3, 2), 1);
        x.change(0, 0, 1, 1);
        due("STALE ones serve none", x.serves(3, 2), -2);
        BatchShare none = Check.with("base 50;r 1 1 1;s 2 2", "join a=d");
        none.keep(2);
        due("0 ROWS", none.costs(0), 0);
        due("0 ROWS", none.serves(0, 2), 0);
    }

    private static void joinsOrApart() {
        Check.says("join: the lesser of what its PART of kind 2 costs by one that is KEPT (if there is one), and what its other two PARTS COST and ROWS of "
            + "the one times ROWS of the other");
        // The KEPT join has 6 ROWS. Apart the QUERIES cost 5 and 1, 5 and 0, 5 and 2.
        String base = "base 50;r 1 0 0;r 1 1 0;s 1 0;s 1 1;s 1 1";
        BatchShare x = Check.with(base, "join a=d", "join a=d if b=0 and e=0", "join a=d if b=0 and e=9", "join a=d if b=0 and e=1");
        int[] apart = {11, 6, 5, 7};
        for (int q = 0; q < 4; q++) {
            due("apart " + q, x.costs(q), apart[q]);
            due("none of kind 2 is KEPT: serves " + q, x.serves(q, 2), -2);
        }
        x.keep(2);
        due("kind 2", x.kept(0, 0) * 100 + x.kept(0, 13), 206);
        Check.says("The KEPT ones so taken SERVE it (of join the one of kind 2, if it costs no more than the others)");
        int[] costs = {6, 6, 5, 6};
        int[] serving = {0, 0, -2, 0};
        for (int q = 0; q < 4; q++) {
            due("costs " + q, x.costs(q), costs[q]);
            due("serves " + q, x.serves(q, 2), serving[q]);
        }
        due("keep R, b=0", x.keep(3), 0);
        due("R, b=0", x.kept(1, 0) * 100 + x.kept(1, 13), 1);
        int[] less = {6, 5, 4, 6};
        int[] ofR = {-2, 1, 1, -2};
        for (int q = 0; q < 4; q++) {
            due("costs " + q, x.costs(q), less[q]);
            due("serves by kind 0 " + q, x.serves(q, 0), ofR[q]);
            due("serves by kind 1 " + q, x.serves(q, 1), -2);
        }
        due("just as much: kind 2", x.serves(3, 2), 0);
        due("then no other", x.serves(1, 2), -2);
    }

    private static void puts() {
        Check.says("PUT (a row behind all others, if there is room)");
        BatchShare x = Check.with("base 9");
        for (int i = 1; i <= 12; i++) {
            due("put in R", x.put(0, i % 10, 9, 0), i);
            due("behind all others", x.cell(0, i - 1, 0), i % 10);
            due("the first stays", x.cell(0, 0, 0), 1);
        }
        due("no room", x.put(0, 1, 1, 1), NONE);
        due("12", x.count(1), 12);
        for (int i = 1; i <= 8; i++) {
            due("put in S", x.put(1, i, 0, 0), i);
            due("behind all others", x.cell(1, i - 1, 3), i);
        }
        due("no room", x.put(1, 1, 1, 1), NONE);
        due("8", x.count(2), 8);
        x.remove(0, 3);
        due("room again", x.put(0, 8, 8, 8), 12);
        due("behind all others", x.cell(0, 11, 2), 8);
        due("none behind it", x.cell(0, 12, 0), NONE);
    }

    private static void removes() {
        Check.says("REMOVE (a row; later ones are one nearer)");
        BatchShare x = Check.with("base 9;r 1 1 1;r 2 2 2;r 3 3 3;r 4 4 4;s 5 5;s 6 6");
        due("in the midst", x.remove(0, 1), 3);
        due("ahead of it", x.cell(0, 0, 2), 1);
        due("one nearer", x.cell(0, 1, 0), 3);
        due("one nearer", x.cell(0, 2, 2), 4);
        due("no fourth", x.cell(0, 3, 0), NONE);
        due("the last", x.remove(0, 2), 2);
        due("those ahead stay", x.cell(0, 1, 1), 3);
        due("the first", x.remove(0, 0), 1);
        due("one nearer", x.cell(0, 0, 1), 3);
        due("the only one", x.remove(0, 0), 0);
        due("none is left", x.remove(0, 0), NONE);
        due("S stays", x.count(2), 2);
        due("the first of S", x.remove(1, 0), 1);
        due("one nearer", x.cell(1, 0, 3), 6);
        BatchShare full = Check.with("base 9" + ";r 1 1 1".repeat(11) + ";r 7 8 9" + ";s 1 1".repeat(7) + ";s 3 4");
        due("of twelve", full.remove(0, 0), 11);
        due("the last is one nearer", full.cell(0, 10, 2), 9);
        due("the last but one", full.cell(0, 9, 2), 1);
        due("of eight", full.remove(1, 0), 7);
        due("the last is one nearer", full.cell(1, 6, 4), 4);
    }

    private static void changes() {
        Check.says("CHANGE (a number of a row is another one)");
        BatchShare x = Check.with("base 9;r 0 5 9;s 9 0");
        due("the same", x.change(0, 0, 0, 0), NONE);
        due("the same", x.change(0, 0, 2, 9), NONE);
        due("the same", x.change(1, 0, 4, 0), NONE);
        due("to 9", x.change(0, 0, 0, 9), 0);
        due("to 0", x.change(0, 0, 2, 0), 9);
        due("it is so", x.cell(0, 0, 0) * 100 + x.cell(0, 0, 1) * 10 + x.cell(0, 0, 2), 950);
        due("of S", x.change(1, 0, 3, 8), 9);
        due("of S", x.change(1, 0, 4, 1), 0);
        due("it is so", x.cell(1, 0, 3) * 10 + x.cell(1, 0, 4), 81);
        due("ACTS", x.count(9), 4);
    }

    private static void strikes() {
        Check.says("STRIKE (a QUERY is STRUCK, or, if it was, not)");
        BatchShare x = Check.with("base 9", SEVEN);
        Check.query(x, "s");
        for (int q = 0; q < 8; q++) {
            due("strike(" + q + ")", x.strike(q), q + 1);
        }
        due("all eight", x.count(4), 255);
        for (int q = 7; q >= 0; q--) {
            due("not STRUCK", x.strike(q), q);
            due("bits", x.count(4), (1 << q) - 1);
        }
    }

    private static void keepsWhatFits() {
        Check.says("KEEP (a CANDIDATE whose ROWS are MEMORY at most, and that is none KEPT");
        BatchShare x = Check.with("base 3" + SEVEN_ROWS, "r if a<=3", "r if a<=2", "r if a<=1", "r if a=9");
        due("4 ROWS, MEMORY 3", x.keep(0), NONE);
        due("3 ROWS, MEMORY 3", x.keep(1), 0);
        due("is KEPT", x.keep(1), NONE);
        x.change(0, 0, 1, 5);
        due("is KEPT, STALE", x.keep(1), NONE);
        due("KEPT", x.count(5), 1);
        BatchShare zero = Check.with("base 0" + SEVEN_ROWS, "r if a=9", "r if a=1", "s");
        due("0 ROWS, MEMORY 0", zero.keep(0), 0);
        due("1 ROW, MEMORY 0", zero.keep(1), NONE);
        due("0 ROWS of S", zero.keep(2), 0);
        due("two KEPT", zero.count(5), 2);
        BatchShare full = Check.with("base 96" + ";r 1 1 1".repeat(12) + ";s 1 1".repeat(8), "join a=d");
        due("96 ROWS, MEMORY 96", full.keep(2), 0);
        due("R, too: that goes", full.keep(0), 1);
        BatchShare less = Check.with("base 95" + ";r 1 1 1".repeat(12) + ";s 1 1".repeat(8), "join a=d");
        due("96 ROWS, MEMORY 95", less.keep(2), NONE);
        less.remove(0, 11);
        due("88 ROWS now", less.keep(2), 0);
    }

    private static void keepMakesRoom() {
        Check.says("as long as ROWS of all KEPT, together with its own, are more than MEMORY, or six are KEPT, the one with least USED, of several the "
            + "first, is FORGOTTEN");
        String[] texts = {"r if a<=1", "r if a=2", "r if a=3", "r if a=4", "r if a>=3 and a<=6"};
        BatchShare x = Check.with("base 5" + SEVEN_ROWS, texts);
        for (int c = 0; c < 4; c++) {
            due("just MEMORY, none goes: keep(" + c + ")", x.keep(c), 0);
        }
        due("ROWS", x.count(6), 5);
        due("4 more: three go, 2 and 1 and 1 ROWS", x.keep(4), 3);
        due("ROWS", x.count(6), 5);
        due("the fourth stays", x.kept(0, 3), 4);
        due("behind all others", x.kept(1, 4), 6);
        BatchShare one = Check.with("base 5" + SEVEN_ROWS, "r if a<=1", "r if a>=2 and a<=4", "r if a=6");
        one.keep(0);
        one.keep(1);
        due("one more than MEMORY: the first goes", one.keep(2), 1);
        due("ROWS", one.count(6), 4);
        due("the second stays", one.kept(0, 3), 2);
        BatchShare none = Check.with("base 50" + SEVEN_ROWS, "r if b=1", "r if b=2", "r if b=3", "r if b=4", "r if b=5", "r if b=6", "r if b=7");
        for (int c = 0; c < 6; c++) {
            due("0 ROWS, keep(" + c + ")", none.keep(c), 0);
        }
        due("six are KEPT: the first goes", none.keep(6), 1);
        due("the first is the second", none.kept(0, 5), 2);
        due("behind all others", none.kept(5, 5), 7);
    }

    private static void leastUsedGoes() {
        Check.says("the one with least USED, of several the first, is FORGOTTEN");
        BatchShare x = sixKept();
        x.strike(2);
        x.strike(4);
        x.run();
        due("USED", x.kept(1, 14), 1);
        due("not USED", x.kept(2, 14), 0);
        due("not USED", x.kept(4, 14), 0);
        due("keep", x.keep(4), 1);
        due("the third went", x.kept(2, 3), 3);
        due("the fifth stays", x.kept(3, 3), 4);
        x.run();
        due("keep", x.keep(6), 1);
        due("the fifth went", x.kept(3, 3), 5);
        for (int least = 0; least < 6; least++) {
            BatchShare each = sixKept();
            each.strike(least);
            each.run();
            due("keep", each.keep(5), 1);
            for (int k = 0; k < 5; k++) {
                due("those USED stay, without " + least, each.kept(k, 3), k < least ? k : k + 1);
            }
        }
        BatchShare last = sixKept();
        last.strike(5);
        last.run();
        due("keep", last.keep(6), 1);
        due("the last of six went", last.kept(4, 3), 4);
        due("the new one", last.kept(5, 4), last.kept(5, 3) + 1);
    }

    private static void keptNow() {
        Check.says("then it is KEPT, behind all others, made now, USED at TIME; SPENT is MAKE more");
        BatchShare x = Check.with("base 50" + SEVEN_ROWS + ";s 1 1;s 2 2", "r if a<=3", "join a=d if a<=3");
        x.run();
        x.run();
        int spent = x.count(7);
        due("SPENT", spent, 2 * (7 + (7 + 2 + 8)));
        x.remove(0, 0);
        due("keep", x.keep(0), 0);
        due("ROWS now", x.kept(0, 13), 3);
        due("USED at TIME", x.kept(0, 14), 2);
        due("not STALE", x.kept(0, 15), 0);
        due("SPENT: MAKE of kind 0 now", x.count(7), spent + 6);
        due("keep", x.keep(2), 0);
        due("behind", x.kept(1, 0), 2);
        due("SPENT: MAKE of kind 2 now", x.count(7), spent + 6 + (6 + 2 + 3 * 2));
        due("keep", x.keep(1), 0);
        due("SPENT: MAKE of kind 1", x.count(7), spent + 6 + 14 + 2);
        due("TIME stays", x.count(8), 2);
        BatchShare anew = sixKept();
        anew.put(0, 0, 1, 1);
        anew.put(0, 5, 1, 1);
        due("STALE", anew.kept(0, 15) + anew.kept(5, 15), 2);
        anew.forget(5);
        due("kept anew", anew.keep(5), 0);
        due("not STALE", anew.kept(5, 15), 0);
        due("ROWS now", anew.kept(5, 13), 2);
        due("the STALE first goes", anew.keep(6), 1);
        due("not STALE", anew.kept(5, 15), 0);
        due("GAIN is made now, too", anew.gain(0), 10000 + (9 - 2) - 9);
    }

    private static void forgets() {
        Check.says("FORGET (a KEPT one is no more, later ones are one nearer)");
        BatchShare x = sixKept();
        due("the first", x.forget(0), 5);
        due("one nearer", x.kept(0, 3), 1);
        due("the last", x.forget(4), 4);
        due("none behind", x.kept(4, 3), -2);
        due("in the midst", x.forget(1), 3);
        due("ahead of it", x.kept(0, 3), 1);
        due("one nearer", x.kept(1, 3), 3);
        due("one nearer", x.kept(2, 3), 4);
        x.forget(0);
        x.forget(0);
        due("the only one", x.forget(0), 0);
        due("none is left", x.forget(0), NONE);
        due("no ROWS", x.count(6), 0);
        due("SPENT stays", x.count(7), 42);
    }

    private static void refreshes() {
        Check.says("REFRESH (one KEPT that is STALE is made anew: ROWS as they are now, not STALE; SPENT is MAKE more");
        BatchShare x = Check.with("base 50" + SEVEN_ROWS, "r if a<=3", "r if a>=5", "r if a=4");
        x.keep(0);
        x.keep(1);
        x.keep(2);
        due("not STALE", x.refresh(0), NONE);
        x.run();
        x.remove(0, 4);
        due("STALE, and no ROWS now", x.refresh(2), 0);
        due("not STALE", x.kept(2, 15), 0);
        due("again", x.refresh(2), NONE);
        due("SPENT", x.count(7), 21 + (4 + 2 + 1) + 6);
        x.put(0, 0, 1, 1);
        x.put(0, 6, 1, 1);
        due("refresh", x.refresh(1), 3);
        due("its place stays", x.kept(1, 3), 5);
        due("ROWS", x.kept(1, 13), 3);
        due("the other is STALE still", x.kept(0, 15), 1);
        due("ROWS as they were", x.kept(0, 13), 4);
        due("USED stays", x.kept(1, 14), 1);
        due("SPENT: MAKE now", x.count(7), 21 + 7 + 6 + 8);
        BatchShare join = Check.with("base 50;r 1 1 1;s 1 1;s 2 2", "join a=d if e<=1");
        join.keep(2);
        join.put(1, 1, 1, 0);
        due("of kind 2", join.refresh(0), 2);
        due("SPENT", join.count(7), (1 + 2 + 1) + (1 + 3 + 2));
    }

    private static void refreshForgets() {
        Check.says("has it more ROWS then than there is MEMORY for, with all others, it is FORGOTTEN instead, nothing SPENT)");
        BatchShare x = Check.with("base 5" + SEVEN_ROWS, "r if a<=1", "r if a=2", "r if a=3");
        x.keep(0);
        x.keep(1);
        x.keep(2);
        x.put(0, 1, 1, 1);
        due("3 and 1 and 1 are MEMORY: refresh", x.refresh(0), 3);
        x.put(0, 0, 1, 1);
        int spent = x.count(7);
        due("4 and 1 and 1 are more", x.refresh(0), -2);
        due("FORGOTTEN", x.count(5), 2);
        due("later ones are one nearer", x.kept(0, 3), 2);
        due("nothing SPENT", x.count(7), spent);
        due("an ACT", x.undo(), 6);
        due("KEPT again", x.count(5), 3);
        due("STALE again", x.kept(0, 15), 1);
        BatchShare last = Check.with("base 4" + SEVEN_ROWS, "r if a<=1", "r if a>=5");
        last.keep(0);
        last.keep(1);
        last.put(0, 5, 1, 1);
        last.put(0, 0, 1, 1);
        due("others' ROWS as they were: the last goes", last.refresh(1), -2);
        due("the first stays, STALE", last.kept(0, 15), 1);
        due("alone it has room", last.refresh(0), 3);
        BatchShare one = Check.with("base 7" + SEVEN_ROWS, "r");
        one.keep(0);
        one.put(0, 1, 1, 1);
        due("alone, one more than MEMORY", one.refresh(0), -2);
        due("none KEPT", one.count(5), 0);
    }

    private static void runs() {
        Check.says("RUN (TIME is 1 more; SPENT is BATCH more; all that SERVE are USED at TIME)");
        BatchShare x = Check.with("base 50" + SEVEN_ROWS + ";s 1 1;s 2 2;s 3 3", "r if a=0", "s if d=1", "join a=d if a<=2 and d<=1", "r if a<0");
        due("run", x.run(), 7 + 3 + (7 + 3 + 3 * 1));
        due("TIME", x.count(8), 1);
        due("SPENT", x.count(7), 23);
        x.keep(0);
        x.keep(1);
        x.keep(2);
        due("run", x.run(), 1 + 1 + (3 + 3 + 3));
        due("serves: USED", x.kept(0, 14), 2);
        due("serves: USED", x.kept(1, 14), 2);
        due("serves the join: USED", x.kept(2, 14), 2);
        x.put(0, 0, 0, 0);
        due("run", x.run(), 8 + 1 + (8 + 3 + 4));
        due("STALE: not USED", x.kept(0, 14), 2);
        due("STALE: not USED", x.kept(2, 14), 2);
        due("USED", x.kept(1, 14), 3);
        x.strike(1);
        x.run();
        due("its QUERY is STRUCK: not USED", x.kept(1, 14), 3);
        due("TIME", x.count(8), 4);
        due("no QUERIES", Check.with("base 1").run(), 0);
    }

    /** A KEPT one of RANGE 3 to 6 of this COL; a row's number there becomes another one. */
    private static void stale(int col, int was, int is, boolean isStale) {
        char c = "abcde".charAt(col);
        String kept = (col < 3 ? "r" : "s") + " if " + c + ">=3 and " + c + "<=6";
        StringBuilder row = new StringBuilder(col < 3 ? ";r" : ";s");
        for (int i = col < 3 ? 0 : 3; i < (col < 3 ? 3 : 5); i++) {
            row.append(" ").append(i == col ? was : 9);
        }
        int table = col < 3 ? 0 : 1;
        BatchShare x = Check.with("base 50" + row, kept, "join a=d if " + c + ">=3 and " + c + "<=6");
        x.keep(0);
        x.keep(2);
        due("kind 2", x.kept(1, 0), 2);
        due("change", x.change(table, 0, col, is), was);
        due("CHANGE of " + c + " from " + was + " to " + is, x.kept(0, 15), isStale ? 1 : 0);
        due("of kind 2", x.kept(1, 15), isStale ? 1 : 0);
    }

    private static void staleByChange() {
        Check.says("By PUT, REMOVE, CHANGE a KEPT one becomes STALE, if that row, as it was, or as it is, is in its RANGES");
        for (int col = 0; col < 5; col++) {
            stale(col, 2, 3, true);
            stale(col, 3, 2, true);
            stale(col, 6, 7, true);
            stale(col, 7, 6, true);
            stale(col, 4, 5, true);
            stale(col, 2, 7, false);
            stale(col, 7, 2, false);
            stale(col, 1, 2, false);
            stale(col, 8, 7, false);
            stale(col, 0, 9, false);
        }
        BatchShare x = Check.with("base 50;r 4 4 4;r 9 9 9", "r if a<=5 and b<=5", "s");
        x.keep(0);
        x.keep(1);
        x.change(0, 1, 1, 3);
        due("one number alone is in them", x.kept(0, 15), 0);
        x.change(0, 0, 2, 7);
        due("a number without TESTS, of a row in them", x.kept(0, 15), 1);
        due("of the other table", x.kept(1, 15), 0);
    }

    private static void staleByPutAndRemove() {
        Check.says("By PUT, REMOVE, CHANGE a KEPT one becomes STALE");
        for (int number = 0; number <= 9; number++) {
            int isStale = number >= 3 && number <= 6 ? 1 : 0;
            BatchShare x = Check.with("base 50;r 4 4 4;s 4 4", "r if b>=3 and b<=6", "s if e>=3 and e<=6");
            x.keep(0);
            x.keep(1);
            x.put(0, 9, number, 9);
            due("PUT of b " + number, x.kept(0, 15), isStale);
            due("not of the other table", x.kept(1, 15), 0);
            x.refresh(0);
            x.remove(0, 1);
            due("REMOVE of b " + number, x.kept(0, 15), isStale);
            x.refresh(0);
            x.put(1, 9, number, 9);
            due("PUT of e " + number, x.kept(1, 15), isStale);
            due("not of the other table", x.kept(0, 15), 0);
            x.refresh(1);
            x.remove(1, 1);
            due("REMOVE of e " + number, x.kept(1, 15), isStale);
            due("not of the other table", x.kept(0, 15), 0);
        }
    }

    private static void staleOfKind2() {
        Check.says("(of kind 2 those of that table)");
        String text = "join a=d if b<=5 and e<=5";
        BatchShare x = Check.with("base 50;r 1 1 1;s 2 2", text);
        x.keep(2);
        x.put(1, 1, 6, 0);
        due("joined, but not in RANGES of S", x.kept(0, 15), 0);
        x.put(0, 2, 6, 0);
        due("joined, but not in RANGES of R", x.kept(0, 15), 0);
        x.put(0, 9, 5, 0);
        due("in RANGES of R, joined to none", x.kept(0, 15), 1);
        x.refresh(0);
        x.put(1, 8, 5, 0);
        due("in RANGES of S, joined to none", x.kept(0, 15), 1);
        x.refresh(0);
        due("it is so", x.kept(0, 15), 0);
        x.remove(1, 1);
        due("not in RANGES of S", x.kept(0, 15), 0);
        x.remove(1, 1);
        due("in RANGES of S", x.kept(0, 15), 1);
    }

    private static void twentyUndone() {
        Check.says("The last 20 can be UNDONE, the last first.");
        for (int acts = 0; acts <= 23; acts++) {
            BatchShare x = Check.with("base 9");
            for (int i = 0; i < acts; i++) {
                x.run();
            }
            int most = Math.min(20, acts);
            due("after " + acts, x.count(9), most);
            for (int left = most - 1; left >= 0; left--) {
                due("undo", x.undo(), left);
                due("TIME", x.count(8), acts - most + left);
            }
            due("no more", x.undo(), -2);
            due("TIME", x.count(8), acts - most);
        }
        BatchShare x = Check.with("base 9");
        for (int i = 0; i < 25; i++) {
            x.run();
        }
        for (int i = 0; i < 7; i++) {
            x.undo();
        }
        due("TIME", x.count(8), 18);
        for (int i = 0; i < 7; i++) {
            x.put(0, i, 0, 0);
        }
        due("as many again", x.count(9), 20);
        x.put(0, 7, 0, 0);
        due("the first is gone", x.count(9), 20);
        for (int i = 0; i < 8; i++) {
            due("undo", x.undo(), 19 - i);
            due("rows", x.count(1), 7 - i);
        }
        for (int i = 0; i < 12; i++) {
            due("undo", x.undo(), 11 - i);
            due("TIME", x.count(8), 17 - i);
        }
        due("no more", x.undo(), -2);
    }

    private static void act(BatchShare x, int act) {
        switch (act) {
            case 0 -> x.keep(0);
            case 1 -> x.keep(5);
            case 2 -> x.run();
            case 3 -> x.put(0, 1, 1, 1);
            case 4 -> x.refresh(0);
            case 5 -> x.remove(0, 2);
            case 6 -> x.strike(1);
            case 7 -> x.change(0, 0, 0, 9);
            case 8 -> x.keep(1);
            case 9 -> x.forget(0);
            case 10 -> x.put(0, 9, 5, 5);
            case 11 -> x.put(0, 8, 5, 5);
            case 12 -> x.put(1, 8, 5, 5);
            case 13 -> x.refresh(1);
            default -> x.run();
        }
    }

    private static BatchShare acted(int acts) {
        BatchShare x = Check.with("base 9;r 0 0 0;r 1 0 0;r 2 0 0;r 3 0 0;r 9 5 5;s 3 3", "r if a<=2", "r if a=3", "s", "join a=d if b>=4");
        for (int act = 0; act < acts; act++) {
            act(x, act);
            Check.due("acts", x.count(9), act + 1);
        }
        return x;
    }

    private static void eachActUndone() {
        Check.says("can be UNDONE");
        for (int acts = 1; acts <= 15; acts++) {
            for (int undone = 1; undone <= acts; undone++) {
                BatchShare x = acted(acts);
                for (int i = 0; i < undone; i++) {
                    Check.due("undo", x.undo(), acts - 1 - i);
                }
                Check.same(acts + " ACTS, " + undone + " UNDONE", Check.told(acted(acts - undone)), x);
            }
        }
    }

    public static void main(String[] args) {
        sixAreKept();
        batches();
        costsOfOne();
        theLeastTheFirst();
        joinsByKept();
        joinsOrApart();
        puts();
        removes();
        changes();
        strikes();
        keepsWhatFits();
        keepMakesRoom();
        leastUsedGoes();
        keptNow();
        forgets();
        refreshes();
        refreshForgets();
        runs();
        staleByChange();
        staleByPutAndRemove();
        staleOfKind2();
        twentyUndone();
        eachActUndone();
        Check.close("ActEdgesTest");
    }
}
