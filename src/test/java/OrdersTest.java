/** Promises 29 to 39. */
public final class OrdersTest {
    public static void main(String[] args) {
        swap();
        lean();
        back();
        shift();
        tile();
        part();
        join();
        joinFirst();
        undo();
        order();
        allowed();
        why();
        Check.end();
    }

    /** LOOPS 0 and 1 over 0 .. 2; ACT 2 in LOOP 0, ACT 3 in LOOP 1. */
    private static LoopLoom two() {
        LoopLoom x = new LoopLoom();
        int last = Check.number(x, 2);
        x.loop(Check.NONE, 0, last, false);
        x.loop(0, 0, last, true);
        x.act(0, 4, 0);
        x.act(1, 4, 0);
        return x;
    }

    /** Behind so many others of an object: one call that is BAD, one that is UNLIKE. */
    private static void refused(LoopLoom x, String name, int others, int bad, int unlike) {
        Check.due(name + " BAD", bad, Check.BAD);
        Check.met(x, name, others, unlike, Check.UNLIKE);
        Check.due(name + " refused is no TURN", x.count(4), 0);
    }

    private static void swap() {
        Check.promise(29);
        LoopLoom x = two();
        refused(x, "swap", 0, x.swap(4, 1), x.swap(2, 0));
        refused(x, "swap", 1, x.swap(-9, 1), x.swap(3, 9));
        int[] bad = {0, -1, 4, Check.MIN, Check.MAX};
        for (int e : bad) Check.due("swap(0, " + e + ")", x.swap(0, e), Check.BAD);
        Check.due("swap(1, 1)", x.swap(1, 1), Check.BAD);
        Check.due("swap(1, 0)", x.swap(1, 0), Check.BAD);
        x.shift(3, 1, 7);
        Check.due("swap(0, 1)", x.swap(0, 1), 1);
        Check.same("the LOOP ROW of 0 tells 1", Check.rowOf(x, 3, 1), "7 0 1 0 0 1 0");
        Check.same("the LOOP ROW of 1 tells 0", Check.rowOf(x, 3, 3), "0 1 0 0 0 1 1");
        Check.same("one without LETTER 1 stays", Check.rowOf(x, 2, 1), "0 1 0 0 0 1 0");
        Check.due("swap(1, 2), which no ACT has: a TURN", x.swap(1, 2), 1);
        Check.due("count(4)", x.count(4), 3);
        LoopLoom y = new LoopLoom();
        int last = Check.number(y, 1);
        y.loop(Check.NONE, 0, last, false);
        y.loop(0, 0, last, false);
        y.act(1, 4, 0);
        y.swap(0, 1);
        Check.same("the new order", Check.told(y, true, 2), "2:0,0 2:1,0 2:0,1 2:1,1");
    }

    private static void lean() {
        Check.promise(30);
        LoopLoom x = two();
        refused(x, "lean", 0, x.lean(4, 1, 1), x.lean(2, 1, 1));
        refused(x, "lean", 1, x.lean(2, 1, 21), x.lean(3, 0, 20));
        refused(x, "lean", 2, x.lean(2, 4, 1), x.lean(2, 3, 1));
        int[][] bad = {{0, 0, 1}, {1, 1, 1}, {0, -1, 1}, {0, 4, 1}, {0, 1, 21}, {0, 1, -21}, {0, 1, Check.MIN}};
        for (int[] b : bad) Check.due("lean(" + b[0] + ", " + b[1] + ", " + b[2] + ")", x.lean(b[0], b[1], b[2]), Check.BAD);
        x.shift(3, 0, 2);
        Check.due("lean(1, 0, -3)", x.lean(1, 0, -3), 1);
        Check.same("the LOOP ROW of 1", Check.rowOf(x, 3, 3), "-6 -3 1 0 0 1 1");
        Check.same("that of 0 stays", Check.rowOf(x, 3, 1), "2 1 0 0 0 1 0");
        Check.same("ACT 2 stays", Check.rowOf(x, 2, 1), "0 1 0 0 0 1 0");
        Check.due("by an inner one", x.lean(0, 1, 1), 1);
        Check.same("the LOOP ROW of 0", Check.rowOf(x, 3, 1), "-4 -2 1 0 0 1 0");
        Check.same("ACT 2, which has no LETTER 1", Check.rowOf(x, 2, 1), "0 1 0 0 0 1 0");
        Check.due("by LETTER 3, which none has", x.lean(0, 3, 20), 1);
        Check.due("by 0 times", x.lean(0, 1, 0), 1);
        leanSpent();
    }

    private static void leanSpent() {
        LoopLoom x = two();
        x.lean(0, 1, 20);
        x.lean(1, 0, 20);
        x.lean(0, 1, 20);
        Check.same("grown", Check.rowOf(x, 3, 1), "0 401 8040 0 0 1 0");
        Check.due("8040 * 20 + 401 is too much", x.lean(1, 0, 20), Check.SPENT);
        Check.due("and so below", x.lean(1, 0, -20), Check.SPENT);
        Check.same("all stays", Check.rowOf(x, 3, 3), "0 20 401 0 0 1 1");
        Check.due("count(4)", x.count(4), 3);
        Check.due("no FINDING", x.finding(), 0);
        Check.due("12 times is not", x.lean(1, 0, 12), 1);
        Check.same("it is then", Check.rowOf(x, 3, 3), "0 4832 96881 0 0 1 1");
    }

    private static void back() {
        Check.promise(31);
        LoopLoom x = two();
        refused(x, "back", 0, x.back(4), x.back(2));
        refused(x, "back", 1, x.back(-1), x.back(3));
        x.shift(3, 1, 5);
        Check.due("back(1)", x.back(1), 1);
        Check.same("the LOOP ROW of 1", Check.rowOf(x, 3, 3), "-5 0 -1 0 0 1 1");
        Check.same("that of 0", Check.rowOf(x, 3, 1), "0 1 0 0 0 1 0");
        Check.due("back(0)", x.back(0), 1);
        Check.same("of all that stand in it", Check.rowOf(x, 2, 1), "0 -1 0 0 0 1 0");
        Check.same("at whatever depth", Check.rowOf(x, 3, 1), "0 -1 0 0 0 1 0");
        LoopLoom y = new LoopLoom();
        y.loop(Check.NONE, 0, Check.number(y, 2), false);
        y.act(0, 4, 0);
        y.act(0, 4, 0);
        y.back(0);
        Check.same("the new order", Check.told(y, true, 1), "1:2 2:2 1:1 2:1 1:0 2:0");
    }

    private static void shift() {
        Check.promise(32);
        LoopLoom x = two();
        refused(x, "shift", 0, x.shift(4, 0, 0), x.shift(0, 0, 1));
        refused(x, "shift", 1, x.shift(0, 4, 0), x.shift(1, 3, 1));
        refused(x, "shift", 2, x.shift(0, 0, 401), x.shift(1, 0, -400));
        Check.due("shift(3, -1, 0)", x.shift(3, -1, 0), Check.BAD);
        Check.due("shift(3, 0, -401)", x.shift(3, 0, -401), Check.BAD);
        Check.due("no such LETTER", x.shift(2, 1, 0), Check.BAD);
        Check.due("no such LETTER", x.shift(3, 2, 0), Check.BAD);
        Check.due("shift(3, 1, -400)", x.shift(3, 1, -400), 1);
        Check.due("shift(3, 1, 1)", x.shift(3, 1, 1), 1);
        Check.same("its number", Check.rowOf(x, 3, 3), "-399 0 1 0 0 1 1");
        Check.same("not the other ACT's", Check.rowOf(x, 2, 1), "0 1 0 0 0 1 0");
        LoopLoom y = two();
        for (int k = 0; k < 250; k++) Check.due("shift(2, 0, 400)", y.shift(2, 0, 400), 1);
        Check.due("100000 in all", y.order(2, 1, 0), 1100000);
        Check.due("one more", y.shift(2, 0, 1), Check.SPENT);
        Check.due("it stays", y.order(2, 1, 0), 1100000);
        Check.due("back from there", y.back(0), 1);
        Check.due("one below", y.shift(2, 0, -1), Check.SPENT);
        Check.due("0 more", y.shift(2, 0, 0), 1);
    }

    private static void tile() {
        Check.promise(33);
        LoopLoom x = two();
        refused(x, "tile", 0, x.tile(4, 1, 2), x.tile(2, 1, 2));
        int[][] bad = {{-1, 1, 2}, {0, 0, 2}, {0, 5, 2}, {0, 1, 1}, {0, 1, 21}, {2, 1, 1}, {2, 0, 2}};
        for (int[] b : bad) Check.due("tile(" + b[0] + ", " + b[1] + ", " + b[2] + ")", x.tile(b[0], b[1], b[2]), Check.BAD);
        x.shift(3, 1, 3);
        Check.due("tile(0, 2, 5)", x.tile(0, 2, 5), 1);
        String[] want = {"0 0 0 0 0 1 -9", "0 1 0 0 0 5 -9", "3 0 1 0 0 5 -9", "0 1 0 0 0 1 0", "1 0 0 0 0 1 -9",
            "3 0 1 0 0 1 1", "3 0 0 0 0 1 -9"};
        for (int i = 0; i < want.length; i++) Check.same("ROW " + i, Check.rowOf(x, 3, i), want[i]);
        Check.due("no more", x.order(3, 7, 0), Check.NONE);
        Check.due("ACT 2 has no LETTER 1 and stays", x.order(2, 3, 0), Check.NONE);
        Check.due("tile(1, 1, 20)", x.tile(1, 1, 20), 1);
        Check.same("ahead of the LOOP ROW of 1", Check.rowOf(x, 3, 5), "3 0 1 0 0 20 -9");
        Check.same("which is next", Check.rowOf(x, 3, 6), "3 0 1 0 0 1 1");
        Check.due("tile(1, 4, 2), which none has: a TURN", x.tile(1, 4, 2), 1);
        Check.due("8 ROWS still", x.order(3, 8, 0), Check.NONE);
        for (int k = 0; k < 8; k++) Check.due("up to 16 ROWS", x.tile(0, 1, 2), 1);
        Check.due("ROW 15", x.order(3, 15, 0), 1000003);
        tileFull();
        tileOrder();
    }

    private static void tileFull() {
        LoopLoom x = two();
        for (int k = 0; k < 5; k++) Check.due("tile(0, 2, 2)", x.tile(0, 2, 2), 1);
        long digest = x.digest();
        Check.due("17 ROWS", x.tile(0, 2, 2), Check.FULL);
        Check.due("all stays as it was", x.digest(), digest);
        Check.due("count(4)", x.count(4), 5);
        Check.due("16 ROWS", x.tile(1, 1, 2), 1);
        Check.due("ROW 15", x.order(3, 15, 0), 1000003);
        Check.due("FULL for one of two ACTS", x.tile(0, 1, 2), Check.FULL);
        Check.due("the other one stays, too", x.order(2, 3, 0), Check.NONE);
        Check.due("no FINDING", x.finding(), 0);
    }

    private static void tileOrder() {
        LoopLoom x = new LoopLoom();
        int low = Check.number(x, -3);
        x.loop(Check.NONE, low, Check.number(x, 1), false);
        x.act(0, 4, 0);
        x.tile(0, 1, 2);
        x.back(0);
        Check.same("cut towards below: -3 | -2 -1 | 0 1, each from behind", Check.told(x, true, 1), "1:-3 1:-1 1:-2 1:1 1:0");
    }

    private static void part() {
        Check.promise(34);
        LoopLoom x = two();
        refused(x, "part", 0, x.part(4), x.part(2));
        refused(x, "part", 1, x.part(-9), x.part(3));
        Check.due("part(0)", x.part(0), 1);
        Check.same("100 * 0 and PLACE 1, which is ACT 2", Check.rowOf(x, 2, 0), "2 0 0 0 0 1 -9");
        Check.same("PLACE 1, which is LOOP 1", Check.rowOf(x, 3, 0), "1 0 0 0 0 1 -9");
        Check.same("now all of LOOP 1, then of ACT 2", Check.told(x, true, 2),
            "3:0,0 3:0,1 3:0,2 3:1,0 3:1,1 3:1,2 3:2,0 3:2,1 3:2,2 2:0,0 2:1,0 2:2,0");
        Check.due("part(1)", x.part(1), 1);
        Check.same("100 * 1 and PLACE 2", Check.rowOf(x, 3, 2), "103 0 0 0 0 1 -9");
        Check.due("part(0)", x.part(0), 1);
        Check.same("100 * 2 and 2", Check.rowOf(x, 2, 0), "202 0 0 0 0 1 -9");
        Check.due("part(0)", x.part(0), 1);
        Check.due("SPENT", x.part(0), Check.SPENT);
        Check.same("it stays", Check.rowOf(x, 2, 0), "20202 0 0 0 0 1 -9");
        Check.due("count(4)", x.count(4), 4);
        x.tile(1, 1, 3);
        Check.due("part(1) of a tile's ROW", x.part(1), 1);
        Check.same("which is ahead of the LOOP ROW now", Check.rowOf(x, 3, 3), "3 0 1 0 0 3 -9");
        partOfTests();
    }

    private static void partOfTests() {
        LoopLoom x = new LoopLoom();
        x.test(Check.NONE, 0, 0);
        x.test(0, 0, 0);
        x.loop(1, 0, 0, false);
        x.test(2, 0, 0);
        x.test(3, 0, 0);
        x.act(4, 4, 0);
        Check.same("PLACE 0 is the outermost TEST", Check.rowOf(x, 5, 0), "0 0 0 0 0 1 -9");
        Check.same("PLACE 1, too", Check.rowOf(x, 5, 2), "3 0 0 0 0 1 -9");
        x.part(2);
        Check.same("parted by it", Check.rowOf(x, 5, 0), "3 0 0 0 0 1 -9");
    }

    /** LOOP 0 with ACT 1, which writes x[i]; LOOP 2 with ACT 3, which reads x[i + 1]. */
    private static LoopLoom pair() {
        LoopLoom x = new LoopLoom();
        int last = Check.number(x, 2);
        int i = Check.letter(x, 0);
        int array = Check.square(x, 2, 5);
        x.loop(Check.NONE, 0, last, false);
        x.act(0, 4, 9);
        x.loop(Check.NONE, 0, last, false);
        x.act(2, 0, 0);
        x.aim(1, 0, array, 0, i);
        x.aim(3, 1, array, 0, Check.sum(x, 4, 1, 0, 1));
        x.aim(3, 0, array, Check.number(x, 1), i);
        return x;
    }

    private static void join() {
        Check.promise(35);
        LoopLoom x = pair();
        refused(x, "join", 0, x.join(4, 0), x.join(1, 2));
        refused(x, "join", 1, x.join(0, -1), x.join(0, 3));
        Check.due("the same", x.join(0, 0), Check.BAD);
        Check.due("not behind", x.join(2, 0), Check.BAD);
        Check.due("join(0, 2)", x.join(0, 2), 1);
        Check.same("it stands where the first one does", Check.rowOf(x, 3, 0), "0 0 0 0 0 1 -9");
        Check.same("the new order", Check.told(x, true, 1), "1:0 3:0 1:1 3:1 1:2 3:2");
        Check.due("x[i + 1] is read too early", x.allowed(), 0);
        x.shift(3, 0, 1);
        Check.due("a turn later it is not", x.allowed(), 1);
        Check.same("the new order", Check.told(x, true, 1), "1:0 1:1 3:0 1:2 3:1 3:2");
        x.part(0);
        x.join(0, 2);
        Check.same("what the first one has now", Check.rowOf(x, 3, 0), "1 0 0 0 0 1 -9");
        int empty = x.loop(Check.NONE, 0, 0, false);
        int later = x.loop(Check.NONE, 0, 0, false);
        Check.due("no ACT in the first", x.join(empty, later), Check.BAD);
        Check.due("none in the other: a TURN", x.join(0, empty), 1);
        int in = x.loop(0, 0, 0, false);
        Check.due("not in the same", x.join(0, in), Check.BAD);
        Check.due("not in the same", x.join(in, empty), Check.BAD);
    }

    /** ACTS of the first LOOP that have unlike numbers there: the first one's is taken. */
    private static void joinFirst() {
        LoopLoom x = new LoopLoom();
        int last = Check.number(x, 1);
        x.loop(Check.NONE, 0, last, false);
        x.act(0, 4, 0);
        x.act(0, 4, 0);
        x.loop(Check.NONE, 0, last, true);
        x.act(3, 4, 0);
        x.part(0);
        x.join(0, 3);
        Check.due("that of ACT 1", x.order(4, 0, 0), 1000001);
        Check.due("ACT 2 stays", x.order(2, 0, 0), 1000002);
    }

    private static void undo() {
        Check.promise(36);
        LoopLoom x = two();
        Check.due("none", x.undo(), Check.STATE);
        long first = x.digest();
        int[] answers = {x.swap(0, 1), x.lean(1, 0, 2), x.back(0), x.shift(3, 1, 4), x.tile(0, 2, 3), x.part(1)};
        for (int a : answers) Check.due("a TURN", a, 1);
        for (int left = 5; left >= 0; left--) Check.due("undo()", x.undo(), left);
        Check.due("as at first", x.digest(), first);
        Check.due("none is left", x.undo(), Check.STATE);
        for (int k = 1; k <= 25; k++) {
            x.shift(3, 0, 1);
            Check.due("count(4)", x.count(4), Math.min(k, 20));
        }
        for (int left = 19; left >= 0; left--) Check.due("undo()", x.undo(), left);
        Check.due("20 are kept: 5 stay", x.order(3, 1, 0), 1000005);
        Check.due("none is left", x.undo(), Check.STATE);
        LoopLoom y = pair();
        long before = y.digest();
        y.join(0, 2);
        y.undo();
        Check.due("join undone", y.digest(), before);
        Check.same("the new order, too", Check.told(y, true, 1), "1:0 1:1 1:2 3:0 3:1 3:2");
    }

    private static void order() {
        Check.promise(37);
        LoopLoom x = two();
        String[] want = {"0 0 0 0 0 1 -9", "0 1 0 0 0 1 0", "1 0 0 0 0 1 -9", "0 0 1 0 0 1 1", "3 0 0 0 0 1 -9"};
        for (int i = 0; i < want.length; i++) Check.same("ROW " + i, Check.rowOf(x, 3, i), want[i]);
        Check.due("order(3, 5, 0)", x.order(3, 5, 0), Check.NONE);
        Check.due("order(3, -1, 0)", x.order(3, -1, 0), Check.NONE);
        Check.due("order(2, 3, 6)", x.order(2, 3, 6), Check.NONE);
        Check.due("order(4, 0, 0)", x.order(4, 0, 0), Check.BAD);
        Check.due("order(3, 99, 7)", x.order(3, 99, 7), Check.BAD);
        Check.due("order(0, 0, -1)", x.order(0, 0, -1), Check.BAD);
        Check.met(x, "UNLIKE ahead of NONE", 0, x.order(0, 99, 0), Check.UNLIKE);
    }

    /** LOOP 0 over 0 .. 2 with an ACT x = x and 1. */
    private static LoopLoom counter() {
        LoopLoom x = new LoopLoom();
        Check.square(x, 2, 4);
        x.loop(Check.NONE, 0, Check.number(x, 2), false);
        x.act(0, 5, 1);
        x.aim(1, 0, 0, 0, 0);
        x.aim(1, 1, 0, 0, 0);
        return x;
    }

    private static LoopLoom spent() {
        LoopLoom x = new LoopLoom();
        x.loop(Check.NONE, 0, Check.number(x, 400), false);
        x.act(0, 4, 0);
        return x;
    }

    private static void allowed() {
        Check.promise(38);
        LoopLoom x = counter();
        Check.due("at first", x.allowed(), 1);
        x.back(0);
        Check.due("back", x.allowed(), 0);
        x.aim(1, 0, 0, 0, Check.letter(x, 0));
        Check.due("an AIM changes it: x[i] = x[0] and 1", x.allowed(), 0);
        x.aim(1, 1, 0, 0, Check.letter(x, 0));
        Check.due("x[i] = x[i] and 1", x.allowed(), 1);
        Check.due("SPENT", spent().allowed(), Check.SPENT);
        LoopLoom y = counter();
        y.lean(0, 1, 3);
        Check.due("nothing changes places", y.allowed(), 1);
        for (int k = 0; k < 3; k++) y.tile(0, 1, 2);
        Check.due("tiles of one LOOP", y.allowed(), 1);
        lengths();
    }

    /**
     * Tiles of ACT 3, whose second letter is 4 more, may have all that ACT 2's
     * three ROWS have: the one with no more ROWS is ahead, against the program.
     */
    private static void lengths() {
        LoopLoom x = two();
        x.shift(3, 1, 4);
        x.tile(0, 2, 2);
        Check.same("the new order", Check.told(x, true, 2),
            "2:0,0 3:0,0 3:0,1 3:1,0 3:1,1 3:0,2 3:1,2 2:1,0 3:2,0 3:2,1 3:2,2 2:2,0");
        LoopLoom y = new LoopLoom();
        int last = Check.number(y, 1);
        y.loop(Check.NONE, 0, last, false);
        y.act(0, 4, 0);
        y.act(0, 4, 0);
        y.lean(0, 1, 1);
        Check.same("of those alike the program's order", Check.told(y, true, 1), "1:0 2:0 1:1 2:1");
    }

    private static void why() {
        Check.promise(39);
        LoopLoom x = counter();
        for (int what = 0; what < 3; what++) Check.due("ALLOWED", x.why(what), Check.NONE);
        x.back(0);
        Check.due("why(0)", x.why(0), 0);
        Check.due("why(1)", x.why(1), 1);
        Check.due("why(2), the least kind", x.why(2), 0);
        Check.due("why(3)", x.why(3), Check.BAD);
        Check.due("why(-1)", x.why(-1), Check.BAD);
        Check.due("SPENT", spent().why(0), Check.SPENT);
        Check.due("BAD ahead of SPENT", spent().why(3), Check.BAD);
        whyOfTwo();
        whyOfPlaces();
    }

    /** S writes x, T reads it, three times: S0 T0 S1 T1 S2 T2, from behind S2 T2 S1 T1 S0 T0. */
    private static void whyOfTwo() {
        LoopLoom x = new LoopLoom();
        Check.square(x, 2, 4);
        x.loop(Check.NONE, 0, Check.number(x, 2), false);
        x.act(0, 4, 7);
        x.act(0, 0, 0);
        x.aim(1, 0, 0, 0, 0);
        x.aim(2, 1, 0, 0, 0);
        x.back(0);
        Check.due("why(0): S0", x.why(0), 0);
        Check.due("why(1): S1 is the first second one", x.why(1), 2);
        Check.due("why(2): both write", x.why(2), 2);
        x.aim(1, 0, 0, 0, Check.letter(x, 0));
        Check.due("S writes x[i], T reads x[0]: ALLOWED but for S0, T1", x.why(0), 0);
        Check.due("T1", x.why(1), 3);
        Check.due("a read behind a write", x.why(2), 0);
    }

    /** A read that a later write overtakes: kind 1. */
    private static void whyOfPlaces() {
        LoopLoom x = new LoopLoom();
        Check.square(x, 2, 5);
        x.loop(Check.NONE, 0, Check.number(x, 2), false);
        x.act(0, 5, 1);
        x.aim(1, 0, 0, 0, Check.letter(x, 0));
        x.aim(1, 2, 0, 0, Check.sum(x, 4, 1, 0, 1));
        Check.due("needs(1, 1, 1)", x.needs(1, 1, 1), 2);
        x.back(0);
        Check.due("why(0)", x.why(0), 0);
        Check.due("why(1)", x.why(1), 1);
        Check.due("why(2)", x.why(2), 1);
        x.back(0);
        Check.due("why(0) as it was", x.why(0), Check.NONE);
    }
}
