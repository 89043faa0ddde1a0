/** Promises 21 to 28. */
public final class BodyTest {
    public static void main(String[] args) {
        visits();
        turns();
        visit();
        has();
        points();
        needs();
        kinds();
        carried();
        distance();
        free();
        Check.end();
    }

    /** LOOP 0 over 0 .. 2: ACT 1 writes x, ACT 2 reads x and writes a place of its own. */
    private static LoopLoom writeAndRead() {
        LoopLoom x = new LoopLoom();
        int i = Check.letter(x, 0);
        int array = Check.square(x, 2, 4);
        x.loop(Check.NONE, 0, Check.number(x, 2), false);
        x.act(0, 4, 7);
        x.act(0, 0, 0);
        x.aim(1, 0, array, 0, 0);
        x.aim(2, 1, array, 0, 0);
        x.aim(2, 0, array, Check.number(x, 1), i);
        return x;
    }

    /** A LOOP of 401 turns with an ACT. */
    private static LoopLoom spent() {
        LoopLoom x = new LoopLoom();
        x.loop(Check.NONE, 0, Check.number(x, 400), false);
        x.act(0, 4, 0);
        return x;
    }

    private static void visits() {
        Check.promise(21);
        LoopLoom x = new LoopLoom();
        Check.due("visits()", x.visits(), 0);
        x.act(Check.NONE, 4, 0);
        Check.due("an ACT at the top", x.visits(), 1);
        int s = Check.sum(x, 1, 1);
        int loop = x.loop(Check.NONE, Check.number(x, 1), s, false);
        x.act(loop, 4, 0);
        x.size(0, 399);
        Check.due("400", x.visits(), 400);
        x.size(0, 400);
        Check.due("401", x.visits(), Check.SPENT);
        Check.due("SPENT is no FINDING", x.finding(), 0);
        x.size(0, 0);
        Check.due("as before", x.visits(), 1);
        Check.due("refused: nothing changes", spent().visits(), Check.SPENT);
    }

    /** TURNS of LOOPS without any ACT count, those of inner ones, too. */
    private static void turns() {
        LoopLoom x = new LoopLoom();
        int s = Check.sum(x, 1, 1);
        int outer = x.loop(Check.NONE, Check.number(x, 1), Check.number(x, 100), false);
        x.loop(outer, Check.number(x, 1), s, false);
        x.size(0, 39);
        Check.due("100 + 100 * 39 = 4000 turns", x.visits(), 0);
        x.size(0, 40);
        Check.due("4100 turns", x.visits(), Check.SPENT);
        LoopLoom y = new LoopLoom();
        int from = Check.sum(y, 1, 1000, 2, 1000, 3, 1000);
        for (int k = 0; k < 3; k++) y.size(k, 400);
        int loop = y.loop(Check.NONE, 0, from, false);
        Check.due("1200001 turns", y.visits(), Check.SPENT);
        y.loop(loop, 0, Check.sum(y, 4, 1000), false);
        Check.due("and more", y.visits(), Check.SPENT);
    }

    private static void visit() {
        Check.promise(22);
        LoopLoom x = new LoopLoom();
        int two = Check.number(x, 2);
        int outer = x.loop(Check.NONE, Check.number(x, -1), 0, false);
        x.act(outer, 4, 0);
        int inner = x.loop(outer, Check.number(x, 1), two, true);
        x.act(inner, 4, 0);
        x.act(Check.NONE, 4, 0);
        Check.same("the program's order", Check.told(x, false, 4),
            "1:-1,0,0,0 3:-1,1,0,0 3:-1,2,0,0 1:0,0,0,0 3:0,1,0,0 3:0,2,0,0 4:0,0,0,0");
        Check.same("the new one at first", Check.told(x, true, 4), Check.told(x, false, 4));
        x.back(outer);
        Check.same("the new one", Check.told(x, true, 2), "1:0,0 3:0,1 3:0,2 1:-1,0 3:-1,1 3:-1,2 4:0,0");
        Check.same("the program's stays", Check.told(x, false, 2), "1:-1,0 3:-1,1 3:-1,2 1:0,0 3:0,1 3:0,2 4:0,0");
        Check.due("visit(7, 0, false)", x.visit(7, 0, false), Check.NONE);
        Check.due("visit(-1, 0, true)", x.visit(-1, 0, true), Check.NONE);
        Check.due("visit(MAX, 0, true)", x.visit(Check.MAX, 0, true), Check.NONE);
        Check.due("visit(0, 5, false)", x.visit(0, 5, false), Check.BAD);
        Check.due("visit(99, -1, false)", x.visit(99, -1, false), Check.BAD);
        Check.due("SPENT ahead of NONE", spent().visit(-1, 0, false), Check.SPENT);
        Check.due("BAD ahead of SPENT", spent().visit(0, 5, false), Check.BAD);
    }

    private static void has() {
        Check.promise(23);
        LoopLoom x = new LoopLoom();
        int outer = x.loop(Check.NONE, 0, Check.number(x, 3), false);
        int test = x.test(outer, Check.letter(x, 0), 2);
        int act = x.act(test, 4, 0);
        int lone = x.act(Check.NONE, 4, 0);
        for (int i = -1; i <= 4; i++) Check.due("has " + i, x.has(act, i, 0, 0, 0), i == 0 || i == 2 ? 1 : 0);
        Check.due("a LETTER it has not is 0", x.has(act, 2, 1, 0, 0), 0);
        Check.due("a LETTER it has not is 0", x.has(act, 2, 0, 1, 0), 0);
        Check.due("a LETTER it has not is 0", x.has(act, 2, 0, 0, -1), 0);
        Check.due("of another ACT", x.has(lone, 2, 0, 0, 0), 0);
        Check.due("no LOOP around", x.has(lone, 0, 0, 0, 0), 1);
        Check.met(x, "no ACT", 0, x.has(outer, 0, 0, 0, 0), Check.UNLIKE);
        Check.due("has(4, ..)", x.has(4, 0, 0, 0, 0), Check.BAD);
        Check.due("has(-9, ..)", x.has(-9, 0, 0, 0, 0), Check.BAD);
        LoopLoom y = spent();
        Check.due("SPENT ahead of UNLIKE", y.has(0, 0, 0, 0, 0), Check.SPENT);
        Check.due("BAD ahead of SPENT", y.has(2, 0, 0, 0, 0), Check.BAD);
        Check.due("no FINDING", y.finding(), 0);
    }

    private static void points() {
        Check.promise(24);
        LoopLoom x = new LoopLoom();
        int outer = x.loop(Check.NONE, 0, Check.number(x, 3), false);
        int inner = x.loop(outer, Check.letter(x, 0), Check.number(x, 3), false);
        int act = x.act(inner, 4, 0);
        int other = x.act(outer, 4, 0);
        Check.due("a triangle", x.points(act), 10);
        Check.due("the outer one", x.points(other), 4);
        Check.due("in no turn", x.points(x.act(x.loop(outer, Check.number(x, 1), 0, false), 4, 0)), 0);
        Check.met(x, "no ACT", 0, x.points(inner), Check.UNLIKE);
        Check.due("points(-1)", x.points(-1), Check.BAD);
        Check.due("points(9)", x.points(9), Check.BAD);
        Check.due("SPENT ahead of UNLIKE", spent().points(0), Check.SPENT);
        Check.due("BAD ahead of SPENT", spent().points(2), Check.BAD);
    }

    private static void needs() {
        Check.promise(25);
        LoopLoom x = writeAndRead();
        int[][] want = {{1, 2, 0, 6}, {1, 2, 1, 0}, {1, 2, 2, 0}, {2, 1, 0, 0}, {2, 1, 1, 3}, {2, 1, 2, 0},
            {1, 1, 0, 0}, {1, 1, 1, 0}, {1, 1, 2, 3}, {2, 2, 0, 0}, {2, 2, 1, 0}, {2, 2, 2, 0}};
        for (int[] w : want) {
            Check.due("needs(" + w[0] + ", " + w[1] + ", " + w[2] + ")", x.needs(w[0], w[1], w[2]), w[3]);
        }
        int[][] bad = {{-1, 1, 0}, {1, 3, 0}, {1, 2, 3}, {1, 2, -1}, {0, 0, 3}};
        for (int[] b : bad) Check.due("needs BAD", x.needs(b[0], b[1], b[2]), Check.BAD);
        Check.met(x, "the first is no ACT", 0, x.needs(0, 1, 0), Check.UNLIKE);
        Check.met(x, "the second is no ACT", 1, x.needs(1, 0, 0), Check.UNLIKE);
        Check.due("SPENT ahead of UNLIKE", spent().needs(0, 0, 0), Check.SPENT);
        Check.due("BAD ahead of SPENT", spent().needs(0, 0, 3), Check.BAD);
    }

    private static void kinds() {
        LoopLoom x = new LoopLoom();
        int array = x.array(0, 0);
        x.loop(Check.NONE, 0, Check.number(x, 2), false);
        x.act(0, 1, 0);
        int far = Check.number(x, -1000);
        for (int which = 0; which < 3; which++) x.aim(1, which, array, far, far);
        for (int kind = 0; kind < 3; kind++) {
            Check.due("one NEED of each kind at most, of a place that is not there", x.needs(1, 1, kind), 3);
        }
        int other = x.array(0, 0);
        x.aim(1, 0, other, far, far);
        Check.due("another ARRAY", x.needs(1, 1, 0) + x.needs(1, 1, 1), 0);
        Check.due("both by 0", x.needs(1, 1, 2), 3);
        x.aim(1, 0, array, 0, far);
        Check.due("another row", x.needs(1, 1, 0) + x.needs(1, 1, 1), 0);
        x.aim(1, 0, array, far, 0);
        Check.due("another place", x.needs(1, 1, 0) + x.needs(1, 1, 1), 0);
        LoopLoom y = new LoopLoom();
        y.array(0, 0);
        y.loop(Check.NONE, 0, Check.number(y, 2), false);
        y.act(0, 1, 0);
        y.aim(1, 1, 0, 0, 0);
        y.aim(1, 2, 0, 0, 0);
        for (int kind = 0; kind < 3; kind++) Check.due("reads alone", y.needs(1, 1, kind), 0);
    }

    private static void carried() {
        Check.promise(26);
        LoopLoom x = writeAndRead();
        Check.due("carried(0)", x.carried(0), 9);
        Check.due("carried(1)", x.carried(1), 0);
        Check.due("carried(NONE)", x.carried(Check.NONE), 3);
        int[] bad = {-1, 4, -8, -10, Check.MIN, Check.MAX};
        for (int b : bad) Check.due("carried(" + b + ")", x.carried(b), Check.BAD);
        Check.due("SPENT", spent().carried(0), Check.SPENT);
        Check.due("BAD ahead of SPENT", spent().carried(4), Check.BAD);
        LoopLoom y = new LoopLoom();
        int array = Check.square(y, 2, 5);
        int two = Check.number(y, 2);
        int i = Check.letter(y, 0);
        int first = y.loop(Check.NONE, 0, two, false);
        int second = y.loop(Check.NONE, 0, two, false);
        int one = y.act(first, 4, 1);
        int other = y.act(second, 0, 0);
        y.aim(one, 0, array, 0, i);
        y.aim(other, 1, array, 0, Check.sum(y, 4, -1, 0, 2));
        Check.due("LOOPS that are not around both: NONE", y.carried(Check.NONE), 3);
        Check.due("carried(0)", y.carried(0), 0);
        inner();
    }

    /** x[i][j] from x[i][j - 1] in two LOOPS, and an ACT at the top. */
    private static void inner() {
        LoopLoom x = new LoopLoom();
        int array = Check.square(x, 2, 5);
        int one = Check.number(x, 1);
        int three = Check.number(x, 3);
        int outer = x.loop(Check.NONE, one, three, false);
        int inner = x.loop(outer, one, three, false);
        int act = x.act(inner, 5, 1);
        x.aim(act, 0, array, Check.letter(x, 0), Check.letter(x, 1));
        x.aim(act, 1, array, Check.letter(x, 0), Check.sum(x, 5, 1, 0, -1));
        Check.due("carried(0)", x.carried(0), 0);
        Check.due("carried(1)", x.carried(1), 6);
        Check.promise(28);
        Check.due("free(outer)", x.free(outer), 1);
        Check.due("free(inner)", x.free(inner), 0);
        Check.promise(26);
    }

    private static void distance() {
        Check.promise(27);
        LoopLoom x = writeAndRead();
        Check.asked(x, "distance(1, 2, 0, false)", x.distance(1, 2, 0, false), 0);
        Check.asked(x, "distance(1, 2, 0, true)", x.distance(1, 2, 0, true), 2);
        Check.asked(x, "distance(2, 1, 0, false)", x.distance(2, 1, 0, false), 1);
        Check.asked(x, "distance(1, 1, 0, true)", x.distance(1, 1, 0, true), 2);
        Check.due("NONE", x.distance(2, 2, 0, true), Check.NONE);
        Check.due("a LETTER that is not around both", x.distance(1, 2, 1, true), Check.BAD);
        Check.due("no LETTER", x.distance(1, 2, 4, true), Check.BAD);
        Check.due("no LETTER", x.distance(1, 2, -1, true), Check.BAD);
        Check.due("no NODE", x.distance(1, 3, 0, true), Check.BAD);
        Check.met(x, "UNLIKE ahead of the LETTER", 0, x.distance(0, 1, 1, true), Check.UNLIKE);
        Check.met(x, "UNLIKE ahead of the LETTER", 1, x.distance(1, 0, 3, true), Check.UNLIKE);
        Check.due("SPENT ahead of UNLIKE", spent().distance(0, 0, 0, true), Check.SPENT);
        Check.due("SPENT ahead of that LETTER", spent().distance(1, 1, 3, true), Check.SPENT);
        Check.due("BAD ahead of SPENT", spent().distance(1, 2, 0, true), Check.BAD);
        LoopLoom y = new LoopLoom();
        int array = Check.square(y, 2, 8);
        int two = Check.number(y, 2);
        int outer = y.loop(Check.NONE, 0, two, false);
        int inner = y.loop(outer, 0, two, false);
        int act = y.act(inner, 5, 1);
        int line = Check.sum(y, 4, 1, 5, 1);
        y.aim(act, 0, array, 0, line);
        y.aim(act, 1, array, 0, line);
        Check.asked(y, "back in the inner one", y.distance(act, act, 1, false), -2);
        Check.asked(y, "at most 0 there", y.distance(act, act, 1, true), -1);
        Check.asked(y, "on in the outer one", y.distance(act, act, 0, false), 1);
    }

    private static void free() {
        Check.promise(28);
        LoopLoom x = writeAndRead();
        Check.due("free(0)", x.free(0), 0);
        x.aim(1, 0, 0, Check.number(x, 2), Check.letter(x, 0));
        Check.due("only reads of one place are left", x.free(0), 1);
        Check.met(x, "no LOOP", 0, x.free(1), Check.UNLIKE);
        Check.due("free(3)", x.free(3), Check.BAD);
        Check.due("free(-9)", x.free(-9), Check.BAD);
        Check.due("SPENT ahead of UNLIKE", spent().free(1), Check.SPENT);
        Check.due("BAD ahead of SPENT", spent().free(2), Check.BAD);
        LoopLoom y = writeAndRead();
        int empty = y.loop(Check.NONE, 0, 0, true);
        Check.due("a LOOP without ACTS", y.free(empty), 1);
        int side = y.loop(Check.NONE, 0, Check.number(y, 2), true);
        y.aim(y.act(side, 4, 0), 0, 0, 0, Check.letter(y, 0));
        Check.due("NEEDS of others do not count", y.free(side), 1);
    }
}
