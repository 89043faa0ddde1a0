/** Terms 2, of NODES, and promises 5 to 9: a test for each sentence that names a boundary. */
public final class EdgeNodesTest {
    public static void main(String[] args) {
        fortyNodes();
        whereTheyStand();
        asTheyWereMade();
        lettersOfLoops();
        fromTo();
        sides();
        divisors();
        notBelow();
        divided();
        twelveActs();
        nothingInActs();
        lettersAround();
        ownLetter();
        loopBad();
        ordersAsAtFirst();
        testBad();
        actSorts();
        actFull();
        aimBad();
        aimOrder();
        aimOrdersStay();
        nodeTold();
        Check.end();
    }

    private static LoopLoom fullOfTests() {
        LoopLoom x = new LoopLoom();
        for (int n = 0; n < 40; n++) Check.due("test", x.test(Check.NONE, 0, 0), n);
        return x;
    }

    private static void fortyNodes() {
        Check.sentence("Terms 2", "NODES 0, 1, .. (40 at most)");
        LoopLoom x = fullOfTests();
        Check.due("loop", x.loop(Check.NONE, 0, 0, false), Check.FULL);
        Check.due("side", x.loop(39, 0, 0, true), Check.FULL);
        Check.due("test", x.test(39, 0, 0), Check.FULL);
        Check.due("act", x.act(39, 0, 0), Check.FULL);
        Check.due("count(1)", x.count(1), 40);
        Check.due("node(39, 0)", x.node(39, 0), 2);
        Check.due("node(40, 0)", x.node(40, 0), Check.BAD);
        LoopLoom y = new LoopLoom();
        for (int n = 0; n < 40; n++) Check.due("loop", y.loop(Check.NONE, 0, 0, n % 2 == 0), n);
        Check.due("the forty-first", y.loop(Check.NONE, 0, 0, false), Check.FULL);
    }

    private static void whereTheyStand() {
        Check.sentence("Terms 2", "stand at the top, or in a LOOP or TEST");
        LoopLoom x = new LoopLoom();
        x.loop(Check.NONE, 0, 0, false);
        x.loop(Check.NONE, 0, 0, true);
        x.test(Check.NONE, 0, 0);
        for (int p = 0; p < 3; p++) {
            Check.due("a LOOP in " + p, x.loop(p, 0, 0, false), 3 + 3 * p);
            Check.due("a TEST in " + p, x.test(p, 0, 0), 4 + 3 * p);
            Check.due("an ACT in " + p, x.act(p, 0, 0), 5 + 3 * p);
        }
        int[] none = {12, -1, -8, -10, Check.MIN, Check.MAX};
        for (int p : none) {
            Check.due("a LOOP in " + p, x.loop(p, 0, 0, false), Check.BAD);
            Check.due("a TEST in " + p, x.test(p, 0, 0), Check.BAD);
            Check.due("an ACT in " + p, x.act(p, 0, 0), Check.BAD);
        }
        Check.due("in the latest one that may hold it", x.act(10, 0, 0), 12);
    }

    private static void asTheyWereMade() {
        Check.sentence("Terms 2", "in the order in which they were made");
        LoopLoom x = new LoopLoom();
        x.loop(Check.NONE, 0, 0, false);
        x.act(Check.NONE, 0, 0);
        x.act(0, 0, 0);
        x.test(0, 0, 0);
        x.act(0, 0, 0);
        x.act(3, 0, 0);
        Check.same("the program", Check.told(x, false, 1), "2:0 5:0 4:0 1:0");
    }

    private static void lettersOfLoops() {
        Check.sentence("Terms 2", "its LETTER, which is how many LOOPS are around it (3 at most)");
        LoopLoom x = new LoopLoom();
        int parent = Check.NONE;
        for (int d = 0; d < 4; d++) {
            parent = x.loop(x.test(parent, 0, 0), 0, 0, d % 2 == 0);
            Check.due("LOOPS around LOOP " + parent, x.node(parent, 2), d);
        }
        Check.due("a fifth LOOP", x.loop(parent, 0, 0, false), Check.BAD);
        Check.due("a fifth SIDE", x.loop(parent, 0, 0, true), Check.BAD);
        int test = x.test(parent, 0, 0);
        Check.due("LOOPS around a TEST in it", x.node(test, 2), 4);
        Check.due("a fifth one in that TEST", x.loop(test, 0, 0, false), Check.BAD);
        Check.due("LOOPS around an ACT in it", x.node(x.act(test, 0, 0), 2), 4);
        Check.due("a LOOP beside the fourth one", x.loop(x.node(parent, 1), 0, 0, false) > 0 ? 1 : 0, 1);
    }

    private static int turns(int from, int to) {
        LoopLoom x = new LoopLoom();
        x.act(x.loop(Check.NONE, Check.number(x, from), Check.number(x, to), false), 4, 0);
        for (int i = 0; i < x.visits(); i++) {
            Check.due("LETTER at turn " + i, x.visit(i, 1, false), 100000 + from + i);
        }
        return x.visits();
    }

    private static void fromTo() {
        Check.sentence("Terms 2", "goes from a SUM to a SUM, 1 more each time (none when the first is greater)");
        Check.due("3 .. 3", turns(3, 3), 1);
        Check.due("3 .. 4", turns(3, 4), 2);
        Check.due("4 .. 3", turns(4, 3), 0);
        Check.due("-1 .. 1", turns(-1, 1), 3);
        Check.due("0 .. -1", turns(0, -1), 0);
        Check.due("-1000 .. -999", turns(-1000, -999), 2);
        Check.due("1000 .. -1000", turns(1000, -1000), 0);
    }

    private static void sides() {
        Check.sentence("Terms 2", "1 SIDE: a LOOP, too");
        LoopLoom x = new LoopLoom();
        int two = Check.number(x, 2);
        x.loop(Check.NONE, 0, two, true);
        x.act(0, 4, 0);
        Check.due("node(0, 0)", x.node(0, 0), 1);
        Check.same("its turns", Check.told(x, false, 1), "1:0 1:1 1:2");
        Check.due("free(0)", x.free(0), 1);
        Check.due("back(0)", x.back(0), 1);
        Check.same("from behind", Check.told(x, true, 1), "1:2 1:1 1:0");
        Check.due("tile(0, 1, 2)", x.tile(0, 1, 2), 1);
        Check.due("best(0, 1, 1)", x.best(0, 1, 1), 0);
    }

    private static void divisors() {
        Check.sentence("Terms 2", "2 TEST: of a SUM and a number m (0 .. 1000)");
        LoopLoom x = new LoopLoom();
        int[] taken = {0, 1, 2, 999, 1000};
        for (int m : taken) Check.due("node(.., 4)", x.node(x.test(Check.NONE, 0, m), 4), m);
        int[] none = {-1, 1001, Check.MIN, Check.MAX};
        for (int m : none) Check.due("test(NONE, 0, " + m + ")", x.test(Check.NONE, 0, m), Check.BAD);
        Check.due("count(1)", x.count(1), 5);
    }

    /** Whether what is in a TEST of a number is done. */
    private static int done(int number, int m) {
        LoopLoom x = new LoopLoom();
        x.act(x.test(Check.NONE, Check.number(x, number), m), 4, 0);
        return x.visits();
    }

    private static void notBelow() {
        Check.sentence("Terms 2", "is done if the SUM is not below 0 (m 0)");
        Check.due("-1", done(-1, 0), 0);
        Check.due("0", done(0, 0), 1);
        Check.due("1", done(1, 0), 1);
        Check.due("-1000", done(-1000, 0), 0);
        Check.due("1000", done(1000, 0), 1);
    }

    private static void divided() {
        Check.sentence("Terms 2", "or can be divided by m");
        Check.due("0 by 1000", done(0, 1000), 1);
        Check.due("1000 by 1000", done(1000, 1000), 1);
        Check.due("-1000 by 1000", done(-1000, 1000), 1);
        Check.due("999 by 1000", done(999, 1000), 0);
        Check.due("-7 by 1", done(-7, 1), 1);
        Check.due("-7 by 2", done(-7, 2), 0);
        Check.due("-8 by 2", done(-8, 2), 1);
        Check.due("1 by 2", done(1, 2), 0);
    }

    private static void twelveActs() {
        Check.sentence("Terms 2", "3 ACT (12 at most)");
        LoopLoom x = new LoopLoom();
        x.test(Check.NONE, 0, 0);
        for (int a = 0; a < 12; a++) Check.due("act", x.act(a % 2 == 0 ? 0 : Check.NONE, 0, 0), a + 1);
        Check.due("a thirteenth", x.act(Check.NONE, 0, 0), Check.FULL);
        Check.due("a thirteenth", x.act(0, 5, 5), Check.FULL);
        Check.due("count(2)", x.count(2), 12);
        Check.due("count(1)", x.count(1), 13);
        Check.due("all are done", x.visits(), 12);
        Check.due("a LOOP may still be made", x.loop(Check.NONE, 0, 0, false), 13);
    }

    private static void nothingInActs() {
        Check.sentence("Terms 2", "which nothing stands in");
        LoopLoom x = new LoopLoom();
        x.act(Check.NONE, 0, 0);
        Check.due("a LOOP", x.loop(0, 0, 0, false), Check.BAD);
        Check.due("a SIDE", x.loop(0, 0, 0, true), Check.BAD);
        Check.due("a TEST", x.test(0, 0, 0), Check.BAD);
        Check.due("an ACT", x.act(0, 0, 0), Check.BAD);
        Check.due("count(1)", x.count(1), 1);
    }

    /** LOOPS 0 .. 3 in one another with an ACT in each, 4 .. 7; SUMS 1 .. 4 are the LETTERS, 5 .. 8 these -1 times. */
    private static LoopLoom nest() {
        LoopLoom x = new LoopLoom();
        for (int d = 0; d < 4; d++) Check.letter(x, d);
        for (int d = 0; d < 4; d++) Check.sum(x, 4 + d, -1);
        for (int d = 0; d < 4; d++) x.loop(d == 0 ? Check.NONE : d - 1, 0, 0, false);
        for (int d = 0; d < 4; d++) x.act(d, 0, 0);
        x.array(0, 1);
        return x;
    }

    private static void lettersAround() {
        Check.sentence("Terms 2", "In SUMS of a NODE the LETTERS of the LOOPS around it may stand alone (with a number that is not 0)");
        LoopLoom x = nest();
        for (int parent = -1; parent < 4; parent++) {
            int p = parent < 0 ? Check.NONE : parent;
            int around = parent + 1;
            for (int d = 0; d < 4; d++) {
                boolean may = d < around;
                Check.due("LETTER " + d + " in a TEST in " + p, x.test(p, 1 + d, 0) >= 0 ? 1 : 0, may ? 1 : 0);
                if (!may) Check.due("LETTER " + d + " -1 times", x.test(p, 5 + d, 0), Check.BAD);
                if (parent < 0) continue;
                int due = may ? 1 : Check.BAD;
                Check.due("LETTER " + d + " for a row of ACT " + (4 + p), x.aim(4 + p, 0, 0, 1 + d, 0), due);
                Check.due("LETTER " + d + " for a place of ACT " + (4 + p), x.aim(4 + p, 0, 0, 0, 5 + d), due);
            }
        }
        for (int d = 0; d < 4; d++) {
            x.term(4 + d, 5);
            x.term(4 + d, 0);
            Check.due("0 times LETTER " + d, x.test(Check.NONE, x.sum(), 0) >= 0 ? 1 : 0, 1);
        }
    }

    private static void ownLetter() {
        Check.sentence("Terms 2", "in a LOOP's own two its own not");
        LoopLoom x = nest();
        for (int own = 0; own < 4; own++) {
            int p = own == 0 ? Check.NONE : own - 1;
            for (int d = 0; d < 4; d++) {
                int due = d < own ? 1 : 0;
                Check.due("from LETTER " + d + " in " + p, x.loop(p, 1 + d, 0, false) >= 0 ? 1 : 0, due);
                Check.due("to LETTER " + d + " in " + p, x.loop(p, 0, 5 + d, true) >= 0 ? 1 : 0, due);
            }
        }
    }

    private static void loopBad() {
        Check.sentence("promise 5", "BAD: what it stands in, SUMS, a fifth LOOP in one another, LETTERS; FULL");
        LoopLoom x = nest();
        int[][] bad = {{4, 0, 0}, {8, 0, 0}, {0, 9, 0}, {0, 0, 9}, {0, -1, 0}, {0, 0, -1}, {3, 0, 0}, {0, 2, 0}, {0, 0, 2}};
        for (int k = 0; k < 2; k++) {
            for (int[] b : bad) {
                Check.due("loop(" + b[0] + ", " + b[1] + ", " + b[2] + ")", x.loop(b[0], b[1], b[2], k == 0), Check.BAD);
            }
            while (x.count(1) < 40) Check.due("a TEST", x.test(Check.NONE, 0, 0) >= 8 ? 1 : 0, 1);
            bad[1][0] = 40;
        }
        Check.due("FULL", x.loop(0, 1, 0, false), Check.FULL);
        Check.due("no FINDING", x.finding(), 0);
    }

    private static void ordersAsAtFirst() {
        Check.sentence("promise 5", "All ORDERS are as at first behind this, test() and act() that are done");
        LoopLoom x = nest();
        long first = x.digest();
        Twin.Call[] done = {y -> y.loop(Check.NONE, 0, 0, false), y -> y.loop(0, 0, 0, true), y -> y.test(0, 0, 0),
            y -> y.act(0, 0, 0)};
        Twin.Call[] refused = {y -> y.loop(3, 0, 0, false), y -> y.test(0, 9, 0), y -> y.act(0, 6, 0)};
        for (Twin.Call call : done) {
            x.back(0);
            x.tile(1, 2, 3);
            x.part(0);
            x.lean(2, 1, 4);
            for (Twin.Call r : refused) Check.due("a refused one", r.on(x), Check.BAD);
            Check.due("leaves the TURNS", x.count(4), 4);
            Check.same("and the ORDERS", Check.rowOf(x, 7, 1), "0 -1 0 0 0 1 0");
            Check.due("one that is done", call.on(x) >= 8 ? 1 : 0, 1);
            for (int a = 4; a < 8; a++) Check.same("a LOOP ROW", Check.rowOf(x, a, 1), "0 1 0 0 0 1 0");
            Check.same("the ROW that was parted", Check.rowOf(x, 7, 0), "0 0 0 0 0 1 -9");
            Check.same("the ROW that leant", Check.rowOf(x, 7, 5), "0 0 0 1 0 1 2");
            Check.due("no ROW more", x.order(7, 9, 0), Check.NONE);
            Check.due("undo()", x.undo(), Check.STATE);
        }
        Check.due("there are NODES more", x.digest() == first ? 1 : 0, 0);
    }

    private static void testBad() {
        Check.sentence("promise 6", "A TEST: its number. BAD: also m; FULL");
        LoopLoom x = nest();
        int[][] bad = {{4, 0, 0}, {40, 0, 0}, {0, 9, 0}, {0, -1, 0}, {0, 2, 0}, {0, 0, -1}, {0, 0, 1001}};
        for (int k = 0; k < 2; k++) {
            for (int[] b : bad) {
                Check.due("test(" + b[0] + ", " + b[1] + ", " + b[2] + ")", x.test(b[0], b[1], b[2]), Check.BAD);
            }
            for (int n = 8; n < 40 && k == 0; n++) Check.due("its number", x.test(n % 4, 1, 1000), n);
        }
        Check.due("FULL", x.test(0, 1, 1000), Check.FULL);
    }

    private static void actSorts() {
        Check.sentence("promise 7", "An ACT of a sort (0 .. 5): its number");
        LoopLoom x = new LoopLoom();
        int[] numbers = {0, -1, Check.MIN, Check.MAX, 7, 1000000};
        for (int sort = 0; sort <= 5; sort++) {
            Check.due("act", x.act(Check.NONE, sort, numbers[sort]), sort);
            Check.due("its sort", x.node(sort, 3), sort);
            Check.due("its k", x.node(sort, 4), numbers[sort]);
        }
        int[] none = {-1, 6, Check.MIN, Check.MAX};
        for (int sort : none) Check.due("sort " + sort, x.act(Check.NONE, sort, 0), Check.BAD);
        Check.due("count(2)", x.count(2), 6);
    }

    private static void actFull() {
        Check.sentence("promise 7", "BAD; FULL: NODES, ACTS");
        LoopLoom x = fullOfTests();
        Check.due("40 NODES, none an ACT", x.act(0, 0, 0), Check.FULL);
        Check.due("BAD ahead of it", x.act(40, 0, 0), Check.BAD);
        Check.due("BAD ahead of it", x.act(0, 6, 0), Check.BAD);
        LoopLoom y = new LoopLoom();
        for (int a = 0; a < 12; a++) y.act(Check.NONE, 0, 0);
        Check.due("12 ACTS and no other NODE", y.act(Check.NONE, 0, 0), Check.FULL);
        Check.due("BAD ahead of it", y.act(0, 0, 0), Check.BAD);
        Check.due("BAD ahead of it", y.act(Check.NONE, -1, 0), Check.BAD);
        while (y.count(1) < 39) y.test(Check.NONE, 0, 0);
        Check.due("the last NODE may be a TEST", y.test(Check.NONE, 0, 0), 39);
        LoopLoom z = new LoopLoom();
        for (int n = 0; n < 39; n++) z.test(Check.NONE, 0, 0);
        Check.due("the last NODE may be an ACT", z.act(38, 0, 0), 39);
    }

    private static void aimBad() {
        Check.sentence("promise 8", "An AIM (0 .. 2) of an ACT: 1. BAD: the NODE, the AIM, the ARRAY, SUMS, LETTERS; UNLIKE: no ACT");
        LoopLoom x = nest();
        x.array(3, 0);
        for (int which = 0; which < 3; which++) Check.due("aim", x.aim(7, which, 1, 8, 4), 1);
        int[][] bad = {{8, 0, 0, 0, 0}, {-1, 0, 0, 0, 0}, {7, 3, 0, 0, 0}, {7, -1, 0, 0, 0}, {7, 0, 2, 0, 0},
            {7, 0, -1, 0, 0}, {7, 0, 0, 9, 0}, {7, 0, 0, -1, 0}, {7, 0, 0, 0, 9}, {7, 0, 0, 0, -1}, {4, 0, 0, 2, 0},
            {4, 0, 0, 0, 2}, {6, 0, 0, 4, 0}, {6, 0, 0, 0, 8}};
        for (int[] b : bad) {
            String call = "aim(" + b[0] + ", " + b[1] + ", " + b[2] + ", " + b[3] + ", " + b[4] + ")";
            Check.due(call, x.aim(b[0], b[1], b[2], b[3], b[4]), Check.BAD);
        }
        Check.due("no FINDING", x.finding(), 0);
        x.test(Check.NONE, 0, 0);
        x.loop(Check.NONE, 0, 0, true);
        int[] noActs = {0, 3, 8, 9};
        for (int k = 0; k < 4; k++) Check.met(x, "no ACT", k, x.aim(noActs[k], 0, 0, 0, 0), Check.UNLIKE);
    }

    private static void aimOrder() {
        Check.sentence("promise 8", "(In this order: numbers, UNLIKE, then LETTERS: BAD.)");
        LoopLoom x = nest();
        int[][] numbers = {{0, 3, 0, 4, 4}, {0, 0, 1, 4, 4}, {0, 0, 0, 9, 4}, {0, 0, 0, 4, 9}};
        for (int[] b : numbers) Check.due("numbers ahead of UNLIKE", x.aim(b[0], b[1], b[2], b[3], b[4]), Check.BAD);
        Check.due("no FINDING", x.finding(), 0);
        Check.met(x, "UNLIKE ahead of LETTERS for the row", 0, x.aim(0, 0, 0, 4, 0), Check.UNLIKE);
        Check.met(x, "UNLIKE ahead of LETTERS for the place", 1, x.aim(0, 0, 0, 0, 4), Check.UNLIKE);
        Check.due("LETTERS", x.aim(4, 0, 0, 4, 0), Check.BAD);
        Check.due("no FINDING more", x.findings(Check.UNLIKE), 2);
    }

    private static void aimOrdersStay() {
        Check.sentence("promise 8", "ORDERS stay");
        LoopLoom x = nest();
        x.back(0);
        x.tile(2, 2, 2);
        Check.due("aim", x.aim(7, 0, 0, 0, 0), 1);
        Check.same("a ROW", Check.rowOf(x, 7, 1), "0 -1 0 0 0 1 0");
        Check.due("11 ROWS", x.order(7, 10, 5), 1);
        Check.due("undo()", x.undo(), 1);
    }

    private static void nodeTold() {
        Check.sentence("promise 9", "Of a NODE: 0 its KIND, 1 what it stands in (NONE) .. 4 its second one (m; k). BAD");
        LoopLoom x = nest();
        Check.due("at the top", x.node(0, 1), Check.NONE);
        Check.due("in LOOP 0", x.node(1, 1), 0);
        Check.due("the first of all", x.node(0, 0), 0);
        Check.due("the last of all", x.node(7, 0), 3);
        int[][] bad = {{8, 0}, {-1, 0}, {Check.NONE, 0}, {0, 5}, {0, -1}, {7, Check.MAX}, {Check.MIN, 4}};
        for (int[] b : bad) Check.due("node(" + b[0] + ", " + b[1] + ")", x.node(b[0], b[1]), Check.BAD);
        Check.due("node(7, 4)", x.node(7, 4), 0);
        Check.due("new LoopLoom().node(0, 0)", new LoopLoom().node(0, 0), Check.BAD);
    }
}
