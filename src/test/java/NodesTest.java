/** Promises 5 to 9. */
public final class NodesTest {
    public static void main(String[] args) {
        loop();
        loopLetters();
        ordersAtFirst();
        test();
        act();
        aim();
        node();
        Check.end();
    }

    private static void loop() {
        Check.promise(5);
        LoopLoom x = new LoopLoom();
        int three = Check.number(x, 3);
        Check.due("loop(NONE, 0, 1, false)", x.loop(Check.NONE, 0, three, false), 0);
        Check.due("loop(0, 0, 1, true)", x.loop(0, 0, three, true), 1);
        Check.due("an ACT", x.act(1, 4, 0), 2);
        int[] badParents = {-1, -8, -10, 3, 40, 2, Check.MIN, Check.MAX};
        for (int p : badParents) Check.due("loop(" + p + ", 0, 0, false)", x.loop(p, 0, 0, false), Check.BAD);
        Check.due("loop(0, 2, 0, false)", x.loop(0, 2, 0, false), Check.BAD);
        Check.due("loop(0, 0, 2, false)", x.loop(0, 0, 2, false), Check.BAD);
        Check.due("loop(0, -1, 0, false)", x.loop(0, -1, 0, false), Check.BAD);
        Check.due("loop(0, 0, NONE, false)", x.loop(0, 0, Check.NONE, false), Check.BAD);
        Check.due("BAD is no FINDING", x.finding(), 0);
        Check.due("visits()", x.visits(), 16);
        Check.due("none when the first is greater", x.loop(Check.NONE, three, 0, false), 3);
        x.act(3, 4, 0);
        Check.due("visits()", x.visits(), 16);
        Check.due("loop in a SIDE", x.loop(1, 0, 0, false), 5);
        Check.due("a fourth", x.loop(5, 0, 0, false), 6);
        Check.due("a fifth", x.loop(6, 0, 0, false), Check.BAD);
        Check.due("a TEST in the fourth", x.test(6, 0, 0), 7);
        Check.due("a fifth in that", x.loop(7, 0, 0, false), Check.BAD);
        while (x.count(1) < 40) x.test(Check.NONE, 0, 0);
        Check.due("BAD ahead of FULL", x.loop(6, 0, 0, false), Check.BAD);
        Check.due("FULL", x.loop(Check.NONE, 0, 0, false), Check.FULL);
        Check.due("count(1)", x.count(1), 40);
    }

    private static void loopLetters() {
        LoopLoom x = new LoopLoom();
        int i = Check.letter(x, 0);
        int j = Check.letter(x, 1);
        Check.due("a LOOP's own LETTER", x.loop(Check.NONE, 0, i, false), Check.BAD);
        Check.due("a LOOP's own LETTER", x.loop(Check.NONE, i, 0, false), Check.BAD);
        int outer = x.loop(Check.NONE, 0, Check.number(x, 2), false);
        Check.due("its own", x.loop(outer, 0, j, false), Check.BAD);
        int test = x.test(outer, i, 0);
        int inner = x.loop(test, i, Check.number(x, 2), false);
        Check.due("the LETTER of the LOOP around it", inner, 2);
        x.act(inner, 4, 0);
        Check.same("a triangle", Check.told(x, false, 2), "3:0,0 3:0,1 3:0,2 3:1,1 3:1,2 3:2,2");
    }

    private static void ordersAtFirst() {
        LoopLoom x = new LoopLoom();
        int outer = x.loop(Check.NONE, 0, 0, false);
        int act = x.act(outer, 4, 0);
        String first = Check.rowOf(x, act, 1);
        Check.same("the LOOP ROW at first", first, "0 1 0 0 0 1 0");
        for (int k = 0; k < 3; k++) {
            x.back(outer);
            x.shift(act, 0, 5);
            Check.due("count(4)", x.count(4), 2);
            if (k == 0) x.loop(Check.NONE, 0, 0, false);
            if (k == 1) x.test(Check.NONE, 0, 0);
            if (k == 2) x.act(outer, 4, 0);
            Check.same("ORDERS as at first", Check.rowOf(x, act, 1), first);
            Check.due("no TURNS are left", x.count(4), 0);
            Check.due("undo()", x.undo(), Check.STATE);
        }
        x.back(outer);
        Check.due("a refused loop", x.loop(Check.NONE, 99, 0, false), Check.BAD);
        Check.due("leaves the ORDERS", x.order(act, 1, 1), 999999);
        Check.due("and the TURNS", x.count(4), 1);
    }

    private static void test() {
        Check.promise(6);
        LoopLoom x = new LoopLoom();
        int i = Check.letter(x, 0);
        int less = Check.sum(x, 4, 1, 0, -2);
        int loop = x.loop(Check.NONE, Check.number(x, -3), Check.number(x, 4), false);
        Check.due("test", x.test(loop, less, 0), 1);
        x.act(1, 4, 0);
        Check.same("m 0: not below 0", Check.told(x, false, 1), "2:2 2:3 2:4");
        Check.due("test", x.test(1, i, 3), 3);
        int in = x.act(3, 4, 0);
        Check.due("in both: points", x.points(in), 1);
        Check.due("has(4, 3, ..)", x.has(in, 3, 0, 0, 0), 1);
        int alone = x.test(loop, i, 3);
        int divided = x.act(alone, 4, 0);
        Check.due("can be divided, -3, 0, 3", x.points(divided), 3);
        Check.due("has -3", x.has(divided, -3, 0, 0, 0), 1);
        Check.due("m 1000", x.test(loop, i, 1000), 7);
        int[][] bad = {{0, i, -1}, {0, i, 1001}, {0, 99, 0}, {0, -1, 0}, {2, 0, 0}, {-1, 0, 0}, {99, 0, 0},
            {Check.NONE, i, 0}};
        for (int[] b : bad) {
            Check.due("test(" + b[0] + ", " + b[1] + ", " + b[2] + ")", x.test(b[0], b[1], b[2]), Check.BAD);
        }
        while (x.count(1) < 40) x.test(Check.NONE, 0, 0);
        Check.due("BAD ahead of FULL", x.test(Check.NONE, 0, -1), Check.BAD);
        Check.due("FULL", x.test(Check.NONE, 0, 0), Check.FULL);
    }

    private static void act() {
        Check.promise(7);
        LoopLoom x = new LoopLoom();
        for (int sort = 0; sort <= 5; sort++) Check.due("act", x.act(Check.NONE, sort, Check.MIN), sort);
        Check.due("act(NONE, 6, 0)", x.act(Check.NONE, 6, 0), Check.BAD);
        Check.due("act(NONE, -1, 0)", x.act(Check.NONE, -1, 0), Check.BAD);
        Check.due("act in an ACT", x.act(0, 0, 0), Check.BAD);
        Check.due("act(-1, 0, 0)", x.act(-1, 0, 0), Check.BAD);
        Check.due("act(6, 0, 0)", x.act(6, 0, 0), Check.BAD);
        for (int a = 6; a < 12; a++) Check.due("act", x.act(Check.NONE, 0, Check.MAX), a);
        Check.due("FULL: ACTS", x.act(Check.NONE, 0, 0), Check.FULL);
        Check.due("BAD ahead of FULL", x.act(0, 0, 0), Check.BAD);
        Check.due("count(2)", x.count(2), 12);
        Check.due("a TEST still", x.test(Check.NONE, 0, 0), 12);
        LoopLoom y = new LoopLoom();
        while (y.count(1) < 40) y.test(Check.NONE, 0, 0);
        Check.due("FULL: NODES", y.act(Check.NONE, 0, 0), Check.FULL);
        Check.due("count(2)", y.count(2), 0);
    }

    private static void aim() {
        Check.promise(8);
        LoopLoom x = new LoopLoom();
        int i = Check.letter(x, 0);
        int j = Check.letter(x, 1);
        int loop = x.loop(Check.NONE, 0, Check.number(x, 2), false);
        int act = x.act(loop, 5, 1);
        int array = Check.square(x, 2, 3);
        Check.due("aim 0", x.aim(act, 0, array, 0, i), 1);
        Check.due("needs(kind 0) with AIM 0 alone", x.needs(act, act, 0), 0);
        Check.due("aim 1", x.aim(act, 1, array, 0, 0), 1);
        Check.due("needs(kind 0), seen at once", x.needs(act, act, 0), 2);
        Check.due("aim 2", x.aim(act, 2, array, i, 0), 1);
        int[][] bad = {{-1, 0, 0, 0, 0}, {2, 0, 0, 0, 0}, {act, -1, 0, 0, 0}, {act, 3, 0, 0, 0}, {act, 0, -1, 0, 0},
            {act, 0, 1, 0, 0}, {act, 0, 0, -1, 0}, {act, 0, 0, 0, 9}, {act, 0, 0, j, 0}, {act, 0, 0, 0, j},
            {loop, 3, 0, 0, 0}, {loop, 0, 5, 0, 0}, {loop, 0, 0, 9, 0}, {loop, 0, 0, 0, -9}};
        for (int[] b : bad) {
            Check.due("aim(" + b[0] + " " + b[1] + " " + b[2] + " " + b[3] + " " + b[4] + ")",
                x.aim(b[0], b[1], b[2], b[3], b[4]), Check.BAD);
        }
        Check.due("no FINDING so far", x.finding(), 0);
        Check.met(x, "UNLIKE ahead of LETTERS", 0, x.aim(loop, 0, array, j, j), Check.UNLIKE);
        x.back(loop);
        Check.due("an AIM anew", x.aim(act, 1, array, 0, i), 1);
        Check.due("needs(kind 0)", x.needs(act, act, 0), 0);
        Check.due("ORDERS stay", x.order(act, 1, 1), 999999);
        Check.due("TURNS stay", x.count(4), 1);
    }

    private static void node() {
        Check.promise(9);
        LoopLoom x = new LoopLoom();
        int two = Check.number(x, 2);
        x.loop(Check.NONE, 0, two, false);
        x.test(0, two, 7);
        x.loop(1, two, 0, true);
        x.act(2, 5, -44);
        int[][] want = {{0, Check.NONE, 0, 0, two}, {2, 0, 1, two, 7}, {1, 1, 1, two, 0}, {3, 2, 2, 5, -44}};
        for (int n = 0; n < 4; n++) {
            for (int what = 0; what <= 4; what++) {
                Check.due("node(" + n + ", " + what + ")", x.node(n, what), want[n][what]);
            }
        }
        int[][] bad = {{-1, 0}, {4, 0}, {0, -1}, {0, 5}, {Check.NONE, 0}, {Check.MAX, 0}, {0, Check.MIN}};
        for (int[] b : bad) Check.due("node(" + b[0] + ", " + b[1] + ")", x.node(b[0], b[1]), Check.BAD);
    }
}
