/** Terms 4 and promises 29 to 35: a test for each sentence that names a boundary. */
public final class EdgeOrdersTest {
    public static void main(String[] args) {
        sixteenRows();
        cutDown();
        rowsAtFirst();
        placesOfTests();
        loopRowsStay();
        rowByRow();
        noMoreRows();
        alike();
        ofEachNeed();
        actsInALoop();
        actsInOthers();
        actsInOthersThatAreFull();
        twelveActs();
        swapRows();
        swapBad();
        leanRows();
        leanBad();
        leanNumbers();
        leanLetters();
        leanAllStays();
        backSigns();
        backBad();
        shiftNumber();
        shiftBad();
        shiftSpent();
        tileRows();
        tileBad();
        tileFull();
        partPlace();
        partSpent();
        partBad();
        joinNumber();
        joinFirstAct();
        joinBad();
        Check.end();
    }

    /** LOOPS 0 .. 3 over 0 .. 1 in one another, ACTS 4 .. 7 in these. */
    private static LoopLoom nest() {
        LoopLoom x = new LoopLoom();
        int one = Check.number(x, 1);
        for (int d = 0; d < 4; d++) x.loop(d == 0 ? Check.NONE : d - 1, 0, one, d % 2 == 1);
        for (int d = 0; d < 4; d++) x.act(d, 4, 0);
        return x;
    }

    private static int rows(LoopLoom x, int act) {
        int i = 0;
        while (i <= 16 && x.order(act, i, 5) != Check.NONE) i++;
        return i;
    }

    private static void sixteenRows() {
        Check.sentence("Terms 4", "An ACT has an ORDER: ROWS (16 at most), each with .. a WIDTH (1 .. 400)");
        LoopLoom x = nest();
        Check.due("9 ROWS and 4", x.tile(0, 4, 20), 1);
        Check.due("and 3", x.tile(1, 3, 2), 1);
        Check.due("16 ROWS", rows(x, 7), 16);
        Check.due("ROW 15 is the last", x.order(7, 15, 0), 1000007);
        Check.due("ROW 16 is none", x.order(7, 16, 0), Check.NONE);
        Check.due("one more", x.tile(3, 1, 2), Check.FULL);
        Check.due("the greatest WIDTH that can come about", x.order(7, 1, 5), 20);
        Check.due("the least", x.order(7, 0, 5), 1);
        x.swap(0, 3);
        Check.due("a LOOP ROW is 1 wide", x.tile(3, 1, 20), Check.FULL);
        Check.due("visit(0, ..) goes on", x.visits(), 30);
    }

    private static void cutDown() {
        Check.sentence("Terms 4", "its TIME at a POINT: of each ROW (the number, and LETTERS so many times) by WIDTH, cut down (towards below)");
        LoopLoom x = new LoopLoom();
        x.act(x.loop(Check.NONE, Check.number(x, -4), Check.number(x, 4), false), 4, 0);
        x.tile(0, 1, 3);
        x.back(0);
        Check.same("-4 | -3 -2 -1 | 0 1 2 | 3 4, each from behind", Check.told(x, true, 1),
            "1:-4 1:-1 1:-2 1:-3 1:2 1:1 1:0 1:4 1:3");
        x.undo();
        x.undo();
        x.shift(1, 0, 1);
        x.tile(0, 1, 3);
        x.back(0);
        Check.same("the number counts: -4 .. -2 | -1 .. 1 | 2 .. 4", Check.told(x, true, 1),
            "1:-2 1:-3 1:-4 1:1 1:0 1:-1 1:4 1:3 1:2");
    }

    private static void rowsAtFirst() {
        Check.sentence("Terms 4", "At first, of an ACT with n LOOPS around it, 2 n + 1 ROWS, of WIDTH 1");
        LoopLoom x = nest();
        int top = x.act(Check.NONE, 4, 0);
        Check.due("n = 0", rows(x, top), 1);
        Check.same("its one ROW", Check.rowOf(x, top, 0), "8 0 0 0 0 1 -9");
        for (int n = 1; n <= 4; n++) {
            int act = 3 + n;
            Check.due("n = " + n, rows(x, act), 2 * n + 1);
            for (int k = 0; k < n; k++) {
                Check.same("PLACE " + k, Check.rowOf(x, act, 2 * k), k + " 0 0 0 0 1 -9");
                int[] l = new int[4];
                l[k] = 1;
                String want = "0 " + l[0] + " " + l[1] + " " + l[2] + " " + l[3] + " 1 " + k;
                Check.same("LETTER " + k, Check.rowOf(x, act, 2 * k + 1), want);
            }
            Check.same("PLACE n", Check.rowOf(x, act, 2 * n), act + " 0 0 0 0 1 -9");
        }
    }

    private static void placesOfTests() {
        Check.sentence("Terms 4", "next behind the k-th LOOP (of several TESTS in one another the outermost one)");
        LoopLoom x = new LoopLoom();
        x.test(Check.NONE, 0, 0);
        x.test(0, 0, 0);
        x.loop(1, 0, 0, false);
        x.test(2, 0, 0);
        x.loop(3, 0, 0, false);
        x.act(4, 4, 0);
        x.test(4, 0, 0);
        x.test(6, 0, 0);
        x.act(7, 4, 0);
        x.act(1, 4, 0);
        int[][] want = {{5, 0, 3, 5}, {8, 0, 3, 6}, {9, 0}};
        for (int[] w : want) {
            for (int k = 1; k < w.length; k++) {
                Check.due("PLACE " + (k - 1) + " of ACT " + w[0], x.order(w[0], 2 * k - 2, 0), 1000000 + w[k]);
            }
        }
    }

    private static void loopRowsStay() {
        Check.sentence("Terms 4", "The ROW of a LETTER is its LOOP ROW; it stays that wherever it goes");
        LoopLoom x = nest();
        x.swap(0, 1);
        Check.same("LOOP ROW 0 tells LETTER 1", Check.rowOf(x, 5, 1), "0 0 1 0 0 1 0");
        x.tile(0, 2, 3);
        Check.same("it goes behind two ROWS", Check.rowOf(x, 5, 3), "0 0 1 0 0 1 0");
        Check.due("the ROWS ahead are none", x.order(5, 1, 6), Check.NONE);
        Check.due("the ROWS ahead are none", x.order(5, 2, 6), Check.NONE);
        x.shift(5, 0, 7);
        Check.same("shift finds it there", Check.rowOf(x, 5, 3), "7 0 1 0 0 1 0");
        x.tile(0, 1, 5);
        Check.same("a tile of it", Check.rowOf(x, 5, 3), "7 0 1 0 0 5 -9");
        Check.same("one ROW further", Check.rowOf(x, 5, 4), "7 0 1 0 0 1 0");
    }

    private static void rowByRow() {
        Check.sentence("Terms 4", "ROW by ROW; the first ROW that differs tells, the lesser one is ahead");
        LoopLoom x = new LoopLoom();
        int one = Check.number(x, 1);
        int outer = x.loop(Check.NONE, 0, one, false);
        x.act(x.loop(outer, 0, one, false), 4, 0);
        Check.same("at first", Check.told(x, true, 2), "2:0,0 2:0,1 2:1,0 2:1,1");
        x.lean(0, 1, -1);
        Check.same("i - j, then j", Check.told(x, true, 2), "2:0,1 2:0,0 2:1,1 2:1,0");
        x.back(1);
        Check.same("i - j, then -j", Check.told(x, true, 2), "2:0,1 2:1,1 2:0,0 2:1,0");
        LoopLoom y = new LoopLoom();
        outer = y.loop(Check.NONE, 0, Check.number(y, 2), false);
        y.act(y.loop(outer, 0, Check.number(y, 1), false), 4, 0);
        y.lean(0, 1, 1);
        y.lean(1, 0, -1);
        y.lean(0, 1, 1);
        Check.same("j, then -i", Check.told(y, true, 2), "2:2,0 2:1,0 2:0,0 2:2,1 2:1,1 2:0,1");
    }

    private static void noMoreRows() {
        Check.sentence("Terms 4", "if one has no more ROWS, it is ahead");
        LoopLoom x = new LoopLoom();
        x.test(Check.NONE, 0, 0);
        x.act(x.loop(0, 0, Check.number(x, 1), false), 4, 0);
        x.act(0, 4, 0);
        Check.same("the program", Check.told(x, false, 1), "2:0 2:1 3:0");
        Check.same("TEST 0 is PLACE 0 of both", Check.told(x, true, 1), "3:0 2:0 2:1");
        LoopLoom y = new LoopLoom();
        y.test(Check.NONE, 0, 0);
        y.act(0, 4, 0);
        y.act(y.loop(0, Check.number(y, -1), 0, false), 4, 0);
        Check.same("it is ahead of what is below 0, too", Check.told(y, true, 1), "1:0 3:-1 3:0");
    }

    private static void alike() {
        Check.sentence("Terms 4", "of those alike the one that is ahead in the program is");
        LoopLoom x = new LoopLoom();
        int two = Check.number(x, 2);
        x.loop(Check.NONE, 0, two, false);
        x.test(0, 0, 0);
        for (int a = 0; a < 3; a++) x.act(1, 4, 0);
        Check.same("ACTS in one TEST", Check.told(x, true, 1), Check.told(x, false, 1));
        x.tile(0, 1, 3);
        x.lean(0, 1, 1);
        Check.same("tiles change nothing", Check.told(x, true, 1), Check.told(x, false, 1));
        LoopLoom y = new LoopLoom();
        y.test(Check.NONE, 0, 0);
        for (int a = 0; a < 11; a++) y.act(0, 4, 0);
        Check.same("ACTS in a TEST at the top", Check.told(y, true, 1), Check.told(y, false, 1));
    }

    private static void ofEachNeed() {
        Check.sentence("Terms 4", "It is ALLOWED, if of each NEED the first VISIT is ahead of the second one in it, too");
        LoopLoom x = new LoopLoom();
        x.act(x.loop(Check.NONE, 0, Check.number(x, 5), false), 4, 0);
        x.array(0, 0);
        Check.due("no NEED at all", x.allowed(), 1);
        x.back(0);
        Check.due("none, from behind", x.allowed(), 1);
        x.aim(1, 0, 0, 0, Check.letter(x, 0));
        x.aim(1, 2, 0, 0, Check.number(x, 5));
        Check.due("5 NEEDS, all from the last VISIT's place", x.needs(1, 1, 1), 5);
        Check.due("they change places", x.allowed(), 0);
        x.aim(1, 2, 0, 0, Check.number(x, 6));
        Check.due("a place that is not written", x.allowed(), 1);
        x.undo();
        x.aim(1, 2, 0, 0, Check.number(x, 5));
        Check.due("in the order of the program", x.allowed(), 1);
    }

    private static void actsInALoop() {
        Check.sentence("Terms 4", "TURNS .. change ORDERS of ACTS that stand in a LOOP (at whatever depth), which has LETTER d");
        LoopLoom x = nest();
        int beside = x.loop(Check.NONE, 0, 0, false);
        int other = x.act(beside, 4, 0);
        int deep = x.act(x.test(x.test(3, 0, 0), 0, 0), 4, 0);
        x.back(1);
        Check.same("one ahead of LOOP 1", Check.rowOf(x, 4, 1), "0 1 0 0 0 1 0");
        int[] in = {5, 6, 7, deep};
        for (int a : in) Check.same("ACT " + a, Check.rowOf(x, a, 3), "0 0 -1 0 0 1 1");
        x.back(0);
        Check.same("one in another LOOP with LETTER 0", Check.rowOf(x, other, 1), "0 1 0 0 0 1 0");
        Check.same("ACT 4", Check.rowOf(x, 4, 1), "0 -1 0 0 0 1 0");
        x.part(0);
        Check.due("parted, in LOOP 1 at whatever depth", x.order(deep, 0, 0), 1000001);
        Check.due("not the one beside", x.order(other, 0, 0), 1000000 + beside);
    }

    /** LOOP 0 { LOOP 1 { ACT 2 } } LOOP 3 { LOOP 4 { ACT 5 } } ACT 6. */
    private static LoopLoom twoNests() {
        LoopLoom x = new LoopLoom();
        for (int k = 0; k < 2; k++) {
            int outer = x.loop(Check.NONE, 0, 0, false);
            x.act(x.loop(outer, 0, 0, false), 4, 0);
        }
        x.act(Check.NONE, 4, 0);
        return x;
    }

    private static String rowsOf(LoopLoom x, int act) {
        StringBuilder b = new StringBuilder();
        int rows = rows(x, act);
        for (int i = 0; i < rows; i++) b.append(i == 0 ? "" : " | ").append(Check.rowOf(x, act, i));
        return b.toString();
    }

    private static void actsInOthers() {
        Check.sentence("Terms 4", "TURNS .. change ORDERS of ACTS that stand in a LOOP: of no others");
        Twin.Call[] turns = {x -> x.swap(0, 1), x -> x.lean(0, 1, 2), x -> x.lean(1, 0, 2), x -> x.back(0), x -> x.back(1),
            x -> x.tile(0, 2, 3), x -> x.tile(1, 1, 3), x -> x.part(0), x -> x.part(1), x -> x.shift(2, 0, 4)};
        for (int k = 0; k < turns.length; k++) {
            LoopLoom x = twoNests();
            String own = rowsOf(x, 2);
            String other = rowsOf(x, 5);
            Check.due("TURN " + k, turns[k].on(x), 1);
            Check.due("TURN " + k + " changes nothing", own.equals(rowsOf(x, 2)) ? 1 : 0, 0);
            Check.same("TURN " + k + ", of another LOOP", rowsOf(x, 5), other);
            Check.same("TURN " + k + ", at the top", rowsOf(x, 6), "6 0 0 0 0 1 -9");
        }
    }

    /** What is great or full in other LOOPS is no hindrance. */
    private static void actsInOthersThatAreFull() {
        Check.sentence("promises 30, 33, 34", "SPENT, FULL: of ACTS in the LOOP alone");
        LoopLoom x = twoNests();
        for (int k = 0; k < 13; k++) x.shift(5, 1, 400);
        Check.due("ACT 5 would be beyond", x.lean(3, 1, 20), Check.SPENT);
        Check.due("ACT 2 is not", x.lean(0, 1, 20), 1);
        x.tile(4, 1, 2);
        Check.due("ACT 5 would be beyond", x.part(4), Check.SPENT);
        Check.due("ACT 2 is not", x.part(1), 1);
        for (int k = 0; k < 10; k++) x.tile(3, 1, 2);
        Check.due("ACT 5 is full", x.tile(3, 1, 2), Check.FULL);
        Check.due("ACT 2 is not", x.tile(0, 1, 2), 1);
    }

    /** LOOP 0 { } LOOP 1 { SIDE 2 { 12 ACTS } } LOOP 15 { }: all TURNS reach the last ACT, 14. */
    private static void twelveActs() {
        Check.sentence("Terms 2", "3 ACT (12 at most): all of them turn");
        LoopLoom x = new LoopLoom();
        x.loop(Check.NONE, 0, 0, false);
        x.loop(Check.NONE, 0, 0, false);
        x.loop(1, 0, 0, true);
        for (int a = 0; a < 12; a++) x.act(2, 4, 0);
        x.loop(Check.NONE, 0, 0, false);
        Check.due("no ACT in the first", x.join(0, 1), Check.BAD);
        Check.due("none in the other", x.join(1, 15), 1);
        int[] turns = {x.swap(1, 1), x.lean(1, 1, 3), x.back(2), x.tile(1, 2, 3), x.part(2)};
        for (int answer : turns) Check.due("a TURN", answer, 1);
        for (int act = 3; act <= 14; act += 11) {
            Check.same("ACT " + act, rowsOf(x, act), "1 0 0 0 0 1 -9 | 0 3 1 0 0 3 -9 | 0 -1 0 0 0 3 -9 | 0 3 1 0 0 1 0 | "
                + (200 + act) + " 0 0 0 0 1 -9 | 0 -1 0 0 0 1 1 | " + act + " 0 0 0 0 1 -9");
        }
    }

    private static void swapRows() {
        Check.sentence("Terms 4", "swap(loop, e): of those that have LETTER e (above d) too: the LOOP ROWS of d and e change what they tell (numbers, WIDTH), not their places");
        LoopLoom x = nest();
        for (int d = 0; d < 4; d++) x.shift(7, d, 10 * d + 1);
        Check.due("swap(0, 3)", x.swap(0, 3), 1);
        Check.same("ROW of 0", Check.rowOf(x, 7, 1), "31 0 0 0 1 1 0");
        Check.same("ROW of 3", Check.rowOf(x, 7, 7), "1 1 0 0 0 1 3");
        Check.same("ROW of 1", Check.rowOf(x, 7, 3), "11 0 1 0 0 1 1");
        for (int a = 4; a < 7; a++) Check.same("ACT " + a + " has no LETTER 3", Check.rowOf(x, a, 1), "0 1 0 0 0 1 0");
        Check.due("swap(2, 3)", x.swap(2, 3), 1);
        Check.same("ROW of 2", Check.rowOf(x, 7, 5), "1 1 0 0 0 1 2");
        Check.same("ROW of 3", Check.rowOf(x, 7, 7), "21 0 0 1 0 1 3");
    }

    private static void swapBad() {
        Check.sentence("promise 29", "BAD: no NODE, e; UNLIKE: no LOOP. (BAD for e behind UNLIKE: e is not above its LETTER, or above 3.)");
        LoopLoom x = nest();
        int[] none = {8, -1, Check.NONE, Check.MIN, Check.MAX};
        for (int n : none) Check.due("swap(" + n + ", 3)", x.swap(n, 3), Check.BAD);
        int[] letters = {Check.MIN, -1, 0, 1, 2, 3, 4, Check.MAX};
        for (int loop = 0; loop < 4; loop++) {
            for (int e : letters) {
                Check.due("swap(" + loop + ", " + e + ")", x.swap(loop, e), e > loop && e < 4 ? 1 : Check.BAD);
            }
        }
        Check.due("6 TURNS", x.count(4), 6);
        Check.due("no FINDING", x.finding(), 0);
        for (int k = 0; k < letters.length; k++) {
            Check.met(x, "UNLIKE ahead of e = " + letters[k], k, x.swap(7, letters[k]), Check.UNLIKE);
        }
        Check.due("a TEST", x.swap(x.test(Check.NONE, 0, 0), 1), Check.FINDING);
    }

    private static void leanRows() {
        Check.sentence("Terms 4", "lean(loop, e, f): the numbers of the LOOP ROW of d are more by f times those of the LOOP ROW of e (of those that have it; another than d), WIDTHS aside");
        LoopLoom x = nest();
        x.shift(7, 3, 5);
        Check.due("by a LETTER behind", x.lean(1, 3, -20), 1);
        Check.same("ROW of 1", Check.rowOf(x, 7, 3), "-100 0 1 0 -20 1 1");
        Check.same("ROW of 3", Check.rowOf(x, 7, 7), "5 0 0 0 1 1 3");
        Check.same("ACT 6 has no LETTER 3", Check.rowOf(x, 6, 3), "0 0 1 0 0 1 1");
        Check.due("by a LETTER ahead", x.lean(2, 1, 20), 1);
        Check.same("ROW of 2", Check.rowOf(x, 7, 5), "-2000 0 20 1 -400 1 2");
        Check.same("ACT 6, too", Check.rowOf(x, 6, 5), "0 0 20 1 0 1 2");
        Check.same("ACT 5 has no LETTER 2", Check.rowOf(x, 5, 3), "0 0 1 0 0 1 1");
        Check.due("0 times", x.lean(0, 1, 0), 1);
        Check.same("ROW of 0", Check.rowOf(x, 7, 1), "0 1 0 0 0 1 0");
    }

    private static void leanBad() {
        Check.sentence("promise 30", "BAD: f is not -20 .. 20, e is its LETTER or not 0 .. 3 (behind UNLIKE: that it is its LETTER); UNLIKE");
        LoopLoom x = nest();
        int[][] bad = {{8, 1, 1}, {-1, 1, 1}, {0, 1, 21}, {0, 1, -21}, {0, 1, Check.MAX}, {0, 1, Check.MIN}, {0, 4, 1},
            {0, -1, 1}, {0, Check.MIN, 1}, {0, 0, 1}, {3, 3, 1}, {7, 4, 1}, {7, -1, 1}, {7, 1, 21}, {7, 1, -21}};
        for (int[] b : bad) Check.due("lean(" + b[0] + ", " + b[1] + ", " + b[2] + ")", x.lean(b[0], b[1], b[2]), Check.BAD);
        Check.due("no FINDING", x.finding(), 0);
        for (int e = 0; e < 4; e++) Check.met(x, "an ACT, whatever e", e, x.lean(7, e, 1), Check.UNLIKE);
        int test = x.test(0, 0, 0);
        Check.met(x, "a TEST, e as many as LOOPS around it", 4, x.lean(test, 1, 1), Check.UNLIKE);
        Check.due("20", x.lean(3, 0, 20), 1);
        Check.due("-20", x.lean(3, 0, -20), 1);
        Check.due("e 3, which an ACT has not", x.lean(0, 3, 1), 1);
        for (int k = 0; k < 250; k++) x.shift(4, 0, 400);
        Check.due("its LETTER: BAD ahead of SPENT", x.lean(0, 0, 20), Check.BAD);
    }

    /** The number of ACT 7's LOOP ROW of 0 is 100000, that of 3 is 1, that of 2 is 0. */
    private static LoopLoom greatNumber() {
        LoopLoom x = nest();
        x.shift(7, 1, 400);
        for (int k = 0; k < 12; k++) x.lean(0, 1, 20);
        Check.due("lean(0, 1, 10)", x.lean(0, 1, 10), 1);
        Check.due("its number", x.order(7, 1, 0), 1100000);
        x.shift(7, 3, 1);
        return x;
    }

    private static void leanNumbers() {
        Check.sentence("promise 30", "SPENT: a number in a ROW would be above 100000 or below -100000: its number");
        LoopLoom x = greatNumber();
        Check.due("100001", x.lean(0, 3, 1), Check.SPENT);
        Check.due("100000 still", x.lean(0, 2, 1), 1);
        Check.due("99999", x.lean(0, 3, -1), 1);
        Check.due("100000 again", x.lean(0, 3, 1), 1);
        x.back(0);
        Check.due("its number", x.order(7, 1, 0), 900000);
        Check.due("-100001", x.lean(0, 3, -1), Check.SPENT);
        Check.due("-100000 still", x.lean(0, 2, -1), 1);
        Check.due("-99999", x.lean(0, 3, 1), 1);
        Check.due("-100399", x.lean(0, 1, -1), Check.SPENT);
        Check.due("no FINDING", x.finding(), 0);
    }

    /** LETTER 3 in the LOOP ROW of 0: 20 times 20 times 250. */
    private static void leanLetters() {
        Check.sentence("promise 30", "SPENT: a number in a ROW would be above 100000 or below -100000: a LETTER's");
        LoopLoom x = nest();
        x.lean(2, 3, 20);
        x.lean(1, 2, 20);
        for (int k = 0; k < 12; k++) x.lean(0, 1, 20);
        Check.due("lean(0, 1, 10)", x.lean(0, 1, 10), 1);
        Check.same("ROW of 0", Check.rowOf(x, 7, 1), "0 1 250 5000 100000 1 0");
        Check.due("100001", x.lean(0, 3, 1), Check.SPENT);
        Check.due("100000 still", x.lean(0, 3, 0), 1);
        Check.due("99999", x.lean(0, 3, -1), 1);
        x.back(0);
        Check.due("-100000", x.lean(0, 3, -1), 1);
        Check.same("ROW of 0", Check.rowOf(x, 7, 1), "0 -1 -250 -5000 -100000 1 0");
        Check.due("-100001", x.lean(0, 3, -1), Check.SPENT);
        Check.due("far below", x.lean(2, 0, 20), Check.SPENT);
        Check.due("far above", x.lean(2, 0, -20), Check.SPENT);
    }

    private static void leanAllStays() {
        Check.sentence("promise 30", "(all stays as it was)");
        for (int great = 2; great <= 3; great++) {
            int other = 5 - great;
            LoopLoom x = new LoopLoom();
            int outer = x.loop(Check.NONE, 0, 0, false);
            int inner = x.loop(outer, 0, 0, false);
            x.act(inner, 4, 0);
            x.act(inner, 4, 0);
            for (int k = 0; k < 12; k++) x.shift(great, 1, 400);
            x.shift(great, 1, 201);
            long before = x.digest();
            int kept = x.count(4);
            Check.due("20 times 5001 for one ACT of two", x.lean(0, 1, 20), Check.SPENT);
            Check.due("the ORDERS of both", x.digest(), before);
            Check.due("count(4)", x.count(4), kept);
            Check.due("-20 times", x.lean(0, 1, -20), Check.SPENT);
            x.shift(great, 1, -1);
            Check.due("20 times 5000", x.lean(0, 1, 20), 1);
            Check.due("its number", x.order(great, 1, 0), 1100000);
            Check.due("the other one's", x.order(other, 1, 0), 1000000);
        }
    }

    private static void backSigns() {
        Check.sentence("Terms 4", "back(loop): the numbers of its LOOP ROW turn their signs");
        LoopLoom x = greatNumber();
        x.back(0);
        Check.same("ROW of 0", Check.rowOf(x, 7, 1), "-100000 -1 -250 0 0 1 0");
        Check.same("ROW of 1", Check.rowOf(x, 7, 3), "400 0 1 0 0 1 1");
        x.back(0);
        Check.same("and back", Check.rowOf(x, 7, 1), "100000 1 250 0 0 1 0");
        x.tile(0, 1, 7);
        x.back(0);
        Check.same("a tile's ROW stays", Check.rowOf(x, 7, 1), "100000 1 250 0 0 7 -9");
        Check.same("the LOOP ROW", Check.rowOf(x, 7, 2), "-100000 -1 -250 0 0 1 0");
    }

    private static void backBad() {
        Check.sentence("promise 31", "A TURN: 1. BAD; UNLIKE");
        LoopLoom x = nest();
        int[] none = {8, -1, Check.NONE, Check.MAX};
        for (int n : none) Check.due("back(" + n + ")", x.back(n), Check.BAD);
        for (int a = 4; a < 8; a++) Check.met(x, "an ACT", a - 4, x.back(a), Check.UNLIKE);
        Check.due("no TURN", x.count(4), 0);
        for (int loop = 0; loop < 4; loop++) Check.due("a LOOP or SIDE", x.back(loop), 1);
        int test = x.test(0, 0, 0);
        int empty = x.loop(0, 0, 0, false);
        Check.met(x, "a TEST", 4, x.back(test), Check.UNLIKE);
        Check.due("a LOOP without ACTS: a TURN", x.back(empty), 1);
        Check.due("count(4)", x.count(4), 1);
    }

    private static void shiftNumber() {
        Check.sentence("Terms 4", "shift(act, d, k): the number of an ACT's LOOP ROW is more by k");
        LoopLoom x = nest();
        Check.due("400", x.shift(7, 3, 400), 1);
        Check.due("-400", x.shift(7, 0, -400), 1);
        Check.due("0", x.shift(7, 1, 0), 1);
        Check.same("ROW of 3", Check.rowOf(x, 7, 7), "400 0 0 0 1 1 3");
        Check.same("ROW of 0", Check.rowOf(x, 7, 1), "-400 1 0 0 0 1 0");
        Check.same("ROW of 1", Check.rowOf(x, 7, 3), "0 0 1 0 0 1 1");
        Check.same("another ACT's", Check.rowOf(x, 6, 1), "0 1 0 0 0 1 0");
        Check.due("three TURNS", x.count(4), 3);
    }

    private static void shiftBad() {
        Check.sentence("promise 32", "BAD: the NODE, d not 0 .. 3, k not -400 .. 400; UNLIKE: no ACT; BAD: it has no such LETTER");
        LoopLoom x = nest();
        int[][] bad = {{8, 0, 1}, {-1, 0, 1}, {7, 4, 1}, {7, -1, 1}, {7, 0, 401}, {7, 0, -401}, {7, 0, Check.MAX},
            {7, 0, Check.MIN}, {0, 4, 1}, {0, -1, 1}, {0, 0, 401}, {0, 0, -401}, {4, 1, 1}, {4, 3, 1}, {6, 3, 0}};
        for (int[] b : bad) Check.due("shift(" + b[0] + ", " + b[1] + ", " + b[2] + ")", x.shift(b[0], b[1], b[2]), Check.BAD);
        Check.due("no FINDING", x.finding(), 0);
        for (int loop = 0; loop < 4; loop++) Check.met(x, "a LOOP", loop, x.shift(loop, 3, 1), Check.UNLIKE);
        for (int d = 0; d < 4; d++) {
            for (int n = 1; n <= 4; n++) Check.due("LETTER " + d + " of " + n, x.shift(3 + n, d, 1), d < n ? 1 : Check.BAD);
        }
        Check.due("at the top", x.shift(x.act(Check.NONE, 4, 0), 0, 1), Check.BAD);
        Check.met(x, "a TEST", 4, x.shift(x.test(0, 0, 0), 0, 1), Check.UNLIKE);
    }

    private static void shiftSpent() {
        Check.sentence("promise 32", "SPENT: as lean()");
        LoopLoom x = greatNumber();
        long before = x.digest();
        int kept = x.count(4);
        Check.due("100001", x.shift(7, 0, 1), Check.SPENT);
        Check.due("100400", x.shift(7, 0, 400), Check.SPENT);
        Check.due("all stays as it was", x.digest(), before);
        Check.due("count(4)", x.count(4), kept);
        Check.due("99999", x.shift(7, 0, -1), 1);
        Check.due("100000", x.shift(7, 0, 1), 1);
        x.back(0);
        Check.due("-100001", x.shift(7, 0, -1), Check.SPENT);
        Check.due("-99600", x.shift(7, 0, 400), 1);
        Check.due("-100000", x.shift(7, 0, -400), 1);
    }

    private static void tileRows() {
        Check.sentence("Terms 4", "tile(loop, n, w): of those that have LETTERS d .. d + n - 1: ahead of the LOOP ROW of d come n ROWS, those of these LETTERS with WIDTH w times theirs");
        LoopLoom x = nest();
        x.lean(2, 1, 3);
        x.shift(7, 3, 9);
        Check.due("tile(1, 3, 20)", x.tile(1, 3, 20), 1);
        String[] want = {"0 0 0 0 0 1 -9", "0 1 0 0 0 1 0", "1 0 0 0 0 1 -9", "0 0 1 0 0 20 -9", "0 0 3 1 0 20 -9",
            "9 0 0 0 1 20 -9", "0 0 1 0 0 1 1", "2 0 0 0 0 1 -9", "0 0 3 1 0 1 2", "3 0 0 0 0 1 -9", "9 0 0 0 1 1 3",
            "7 0 0 0 0 1 -9"};
        for (int i = 0; i < want.length; i++) Check.same("ROW " + i, Check.rowOf(x, 7, i), want[i]);
        Check.due("12 ROWS", rows(x, 7), 12);
        Check.due("ACT 6 has no LETTER 3", rows(x, 6), 7);
        Check.due("tile(3, 2, 2): no ACT has LETTERS 3 and 4: a TURN", x.tile(3, 2, 2), 1);
        Check.due("tile(3, 1, 2)", x.tile(3, 1, 2), 1);
        Check.same("ahead of the LOOP ROW of 3", Check.rowOf(x, 7, 10), "9 0 0 0 1 2 -9");
        Check.due("tile(0, 1, 2)", x.tile(0, 1, 2), 1);
        for (int a = 4; a < 7; a++) Check.due("all have LETTER 0", rows(x, a), 2 * (a - 3) + 2);
    }

    private static void tileBad() {
        Check.sentence("promise 33", "BAD: the NODE, n not 1 .. 4, w not 2 .. 20; UNLIKE");
        LoopLoom x = nest();
        int[][] bad = {{8, 1, 2}, {-1, 1, 2}, {0, 0, 2}, {0, 5, 2}, {0, -1, 2}, {0, 1, 1}, {0, 1, 21}, {0, 1, -2},
            {0, Check.MAX, 2}, {0, 1, Check.MIN}, {7, 0, 2}, {7, 5, 2}, {7, 1, 1}, {7, 1, 21}};
        for (int[] b : bad) Check.due("tile(" + b[0] + ", " + b[1] + ", " + b[2] + ")", x.tile(b[0], b[1], b[2]), Check.BAD);
        Check.due("no FINDING", x.finding(), 0);
        Check.met(x, "an ACT", 0, x.tile(7, 1, 2), Check.UNLIKE);
        Check.met(x, "an ACT", 1, x.tile(4, 4, 20), Check.UNLIKE);
        Check.due("n 4, w 2", x.tile(0, 4, 2), 1);
        Check.due("n 1, w 20", x.tile(0, 1, 20), 1);
        Check.met(x, "a TEST", 2, x.tile(x.test(0, 0, 0), 1, 2), Check.UNLIKE);
    }

    private static void tileFull() {
        Check.sentence("promise 33", "FULL: an ORDER would have more than 16 ROWS, or a WIDTH above 400 (all stays as it was)");
        LoopLoom x = nest();
        x.tile(0, 4, 2);
        Check.due("13 ROWS and 4", x.tile(0, 4, 2), Check.FULL);
        Check.due("13 ROWS and 3", x.tile(0, 3, 2), 1);
        long before = x.digest();
        int kept = x.count(4);
        for (int n = 1; n <= 4; n++) Check.due("16 ROWS and " + n, x.tile(0, n, 2), Check.FULL);
        Check.due("the ORDERS of all", x.digest(), before);
        Check.due("count(4)", x.count(4), kept);
        Check.due("tile(3, 2, 2), for none: a TURN", x.tile(3, 2, 2), 1);
        Check.due("no FINDING", x.finding(), 0);
        LoopLoom y = new LoopLoom();
        y.act(y.loop(Check.NONE, 0, 0, false), 4, 0);
        for (int k = 0; k < 13; k++) Check.due("tile(0, 1, 20)", y.tile(0, 1, 20), 1);
        Check.due("17 ROWS", y.tile(0, 1, 20), Check.FULL);
        for (int i = 1; i < 14; i++) Check.due("20 times the LOOP ROW's WIDTH", y.order(1, i, 5), 20);
    }

    private static void partPlace() {
        Check.sentence("Terms 4", "part(loop): the number of the ROW ahead of the LOOP ROW of d becomes 100 times itself, and the PLACE d + 1 as it was at first");
        LoopLoom x = nest();
        Check.due("part(3)", x.part(3), 1);
        Check.same("100 times 3, and 7", Check.rowOf(x, 7, 6), "307 0 0 0 0 1 -9");
        Check.due("part(2)", x.part(2), 1);
        Check.same("100 times 2, and 3, not 307", Check.rowOf(x, 7, 4), "203 0 0 0 0 1 -9");
        Check.same("100 times 2, and 6", Check.rowOf(x, 6, 4), "206 0 0 0 0 1 -9");
        Check.due("part(0)", x.part(0), 1);
        Check.same("100 times 0, and 1", Check.rowOf(x, 7, 0), "1 0 0 0 0 1 -9");
        Check.same("100 times 0, and 4", Check.rowOf(x, 4, 0), "4 0 0 0 0 1 -9");
        x.tile(1, 1, 5);
        x.shift(7, 1, 6);
        Check.due("part(1)", x.part(1), 1);
        Check.same("the ROW ahead is a tile's", Check.rowOf(x, 7, 3), "2 0 1 0 0 5 -9");
        Check.same("PLACE 1 stays", Check.rowOf(x, 7, 2), "1 0 0 0 0 1 -9");
    }

    /** The number of a tile's ROW ahead of the LOOP ROW of ACT 2, beside ACT 1. */
    private static LoopLoom tiled(int number) {
        LoopLoom x = new LoopLoom();
        x.loop(Check.NONE, 0, 0, false);
        x.act(0, 4, 0);
        x.act(0, 4, 0);
        int left = number;
        while (left != 0) {
            int k = Math.max(-400, Math.min(400, left));
            x.shift(2, 0, k);
            left -= k;
        }
        x.tile(0, 1, 2);
        return x;
    }

    private static void partSpent() {
        Check.sentence("promise 34", "SPENT: as lean()");
        int[][] taken = {{999, 99902}, {-1000, -99998}};
        for (int[] t : taken) {
            LoopLoom x = tiled(t[0]);
            Check.due("part(0)", x.part(0), 1);
            Check.due("100 times " + t[0] + ", and 2", x.order(2, 1, 0), 1000000 + t[1]);
        }
        int[] spent = {1000, -1001, 2000, -2000};
        for (int number : spent) {
            LoopLoom x = tiled(number);
            long before = x.digest();
            int kept = x.count(4);
            Check.due("100 times " + number + ", and 2", x.part(0), Check.SPENT);
            Check.due("all stays as it was, of ACT 1, too", x.digest(), before);
            Check.due("count(4)", x.count(4), kept);
        }
        LoopLoom z = new LoopLoom();
        z.act(z.loop(Check.NONE, 0, 0, false), 4, 0);
        int[] numbers = {1, 101, 10101};
        for (int number : numbers) {
            Check.due("part(0)", z.part(0), 1);
            Check.due("PLACE 0 becomes", z.order(1, 0, 0), 1000000 + number);
        }
        Check.due("1010101", z.part(0), Check.SPENT);
        Check.due("it stays", z.order(1, 0, 0), 1010101);
        LoopLoom y = new LoopLoom();
        y.act(y.loop(Check.NONE, 0, 0, false), 4, 0);
        y.act(0, 4, 0);
        for (int k = 0; k < 2; k++) y.shift(1, 0, 400);
        y.shift(1, 0, 200);
        y.tile(0, 1, 2);
        Check.due("100001 of the first ACT", y.part(0), Check.SPENT);
        Check.due("the other one stays", y.order(2, 1, 0), 1000000);
    }

    private static void partBad() {
        Check.sentence("promise 34", "A TURN: 1. BAD; UNLIKE");
        LoopLoom x = nest();
        int[] none = {8, -1, Check.NONE, Check.MIN};
        for (int n : none) Check.due("part(" + n + ")", x.part(n), Check.BAD);
        for (int a = 4; a < 8; a++) Check.met(x, "an ACT", a - 4, x.part(a), Check.UNLIKE);
        Check.due("no TURN", x.count(4), 0);
        Check.met(x, "a TEST", 4, x.part(x.test(0, 0, 0)), Check.UNLIKE);
        Check.due("a LOOP without ACTS: a TURN", x.part(x.loop(0, 0, 0, false)), 1);
        Check.due("count(4)", x.count(4), 1);
    }

    /** LOOP 0 { ACT 3 } LOOP 1 { ACT 4 LOOP 2 { ACT 5 } } LOOP 6 { ACT 7 }, where ACT 4 is the first ACT made. */
    private static LoopLoom beside() {
        LoopLoom x = new LoopLoom();
        x.loop(Check.NONE, 0, 0, false);
        x.loop(Check.NONE, 0, 0, true);
        x.loop(1, 0, 0, false);
        x.act(1, 4, 0);
        x.act(0, 4, 0);
        x.act(2, 4, 0);
        x.loop(Check.NONE, 0, 0, false);
        x.act(6, 4, 0);
        return x;
    }

    private static void joinNumber() {
        Check.sentence("Terms 4", "join(loop, other): of those in the other LOOP .. the number of the ROW ahead of its LOOP ROW becomes that which those in the first one have there");
        LoopLoom x = beside();
        Check.due("join(0, 1)", x.join(0, 1), 1);
        Check.due("ACT 3, the first ACT of all", x.order(3, 0, 0), 1000000);
        Check.due("ACT 5, deeper", x.order(5, 0, 0), 1000000);
        Check.due("ACT 5's own PLACE 1 stays", x.order(5, 2, 0), 1000002);
        Check.due("ACT 7 stays", x.order(7, 0, 0), 1000006);
        x.undo();
        Check.due("join(1, 6)", x.join(1, 6), 1);
        Check.due("ACT 7", x.order(7, 0, 0), 1000001);
        x.shift(3, 0, -77);
        x.tile(1, 1, 2);
        x.tile(6, 1, 3);
        Check.due("join(1, 6) of tiles", x.join(1, 6), 1);
        Check.same("the tile's ROW of ACT 7", Check.rowOf(x, 7, 1), "-77 1 0 0 0 3 -9");
        Check.same("PLACE 0 stays", Check.rowOf(x, 7, 0), "1 0 0 0 0 1 -9");
        LoopLoom y = new LoopLoom();
        y.loop(Check.NONE, 0, 0, false);
        y.loop(0, 0, 0, false);
        y.loop(0, 0, 0, false);
        y.act(1, 4, 0);
        y.act(2, 4, 0);
        Check.due("LOOPS in a LOOP", y.join(1, 2), 1);
        Check.same("PLACE 1", Check.rowOf(y, 4, 2), "1 0 0 0 0 1 -9");
        Check.same("PLACE 0 stays", Check.rowOf(y, 4, 0), "0 0 0 0 0 1 -9");
    }

    private static void joinFirstAct() {
        Check.sentence("Terms 4", "(the first ACT's of them)");
        LoopLoom x = beside();
        x.part(1);
        Check.due("ACT 3", x.order(3, 0, 0), 1000103);
        Check.due("ACT 5", x.order(5, 0, 0), 1000102);
        x.join(1, 6);
        Check.due("ACT 7 as ACT 3", x.order(7, 0, 0), 1000103);
        Check.due("ACT 5 stays", x.order(5, 0, 0), 1000102);
    }

    private static void joinBad() {
        Check.sentence("promise 35", "BAD: NODES; UNLIKE: either; BAD: they do not stand in the same, the other is not behind the first one, or no ACT stands in the first one");
        LoopLoom x = beside();
        int[][] bad = {{8, 1}, {0, 8}, {-1, 1}, {0, -1}, {3, 8}, {8, 3}, {Check.NONE, Check.NONE}};
        for (int[] b : bad) Check.due("join(" + b[0] + ", " + b[1] + ")", x.join(b[0], b[1]), Check.BAD);
        Check.met(x, "the first is an ACT", 0, x.join(3, 6), Check.UNLIKE);
        Check.met(x, "the other is an ACT", 1, x.join(0, 3), Check.UNLIKE);
        Check.met(x, "UNLIKE ahead of what is not behind", 2, x.join(7, 3), Check.UNLIKE);
        int[][] apart = {{1, 2}, {0, 2}, {2, 6}, {1, 0}, {6, 1}, {0, 0}, {6, 6}};
        for (int[] b : apart) Check.due("join(" + b[0] + ", " + b[1] + ")", x.join(b[0], b[1]), Check.BAD);
        Check.due("no FINDING more", x.findings(Check.UNLIKE), 3);
        Check.due("no TURN", x.count(4), 0);
        int empty = x.loop(Check.NONE, 0, 0, false);
        int last = x.loop(Check.NONE, 0, 0, false);
        Check.due("no ACT in the first", x.join(empty, last), Check.BAD);
        Check.due("none in the other: a TURN", x.join(0, empty), 1);
        int test = x.test(Check.NONE, 0, 0);
        int inTest = x.loop(test, 0, 0, false);
        Check.due("the other in a TEST", x.join(0, inTest), Check.BAD);
        Check.met(x, "the other is a TEST", 3, x.join(0, test), Check.UNLIKE);
        x.act(empty, 4, 0);
        Check.due("an ACT in the first", x.join(empty, last), 1);
        LoopLoom y = new LoopLoom();
        y.loop(Check.NONE, 0, 0, false);
        y.act(Check.NONE, 4, 0);
        y.act(y.loop(Check.NONE, 0, 0, false), 4, 0);
        Check.due("an ACT beside the first is not in it", y.join(0, 2), Check.BAD);
        y.act(0, 4, 0);
        Check.due("one in it", y.join(0, 2), 1);
        Check.due("ACT 3", y.order(3, 0, 0), 1000000);
    }
}
