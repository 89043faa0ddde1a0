/** Promises 40 to 45. */
public final class RunsTest {
    public static void main(String[] args) {
        run();
        sorts();
        findings();
        ended();
        fetched();
        best();
        bestOfLoops();
        lines();
        written();
        Check.end();
    }

    private static LoopLoom spent() {
        LoopLoom x = new LoopLoom();
        x.loop(Check.NONE, 0, Check.number(x, 400), false);
        x.act(0, 4, 0);
        return x;
    }

    /** LOOP 0 over 1 .. 4 with ACT 1: x[i] = x[i - 1] and 1. */
    private static LoopLoom chain() {
        LoopLoom x = new LoopLoom();
        Check.square(x, 2, 5);
        x.loop(Check.NONE, Check.number(x, 1), Check.number(x, 4), false);
        x.act(0, 5, 1);
        x.aim(1, 0, 0, 0, Check.letter(x, 0));
        x.aim(1, 1, 0, 0, Check.sum(x, 4, 1, 0, -1));
        return x;
    }

    private static void run() {
        Check.promise(40);
        LoopLoom x = chain();
        x.lay(0, 0, 0, 10);
        Check.due("run(false)", x.run(false), 4);
        Check.due("x[4]", Check.at(x, 0, 0, 4), 14);
        x.row(0, 0, 5);
        x.lay(0, 0, 0, 10);
        x.back(0);
        Check.due("run(true), from behind", x.run(true), 4);
        Check.due("x[4]", Check.at(x, 0, 0, 4), 1);
        Check.due("x[1]", Check.at(x, 0, 0, 1), 11);
        Check.due("run(false) is as the program is", x.run(false), 4);
        Check.due("x[4]", Check.at(x, 0, 0, 4), 14);
        Check.due("SPENT", spent().run(false), Check.SPENT);
        Check.due("SPENT", spent().run(true), Check.SPENT);
        Check.due("nothing to do", new LoopLoom().run(false), 0);
    }

    /** What an ACT of a sort with k makes of two numbers, in an ARRAY of a kind. */
    private static long outcome(int kind, int sort, int k, long one, long two) {
        LoopLoom x = new LoopLoom();
        Check.square(x, 3, 2);
        Check.square(x, kind, 1);
        int second = Check.number(x, 1);
        x.lay(0, 0, 0, one);
        x.lay(0, 0, 1, two);
        x.act(Check.NONE, sort, k);
        x.aim(0, 0, 1, 0, 0);
        x.aim(0, 1, 0, 0, 0);
        x.aim(0, 2, 0, 0, second);
        Check.due("run(false) of sort " + sort, x.run(false), 1);
        return Check.at(x, 1, 0, 0);
    }

    private static void sorts() {
        long min = Long.MIN_VALUE;
        long max = Long.MAX_VALUE;
        Check.due("0 the first", outcome(3, 0, 9, -7, 2), -7);
        Check.due("1 both together", outcome(3, 1, 9, -7, 2), -5);
        Check.due("1 wraps", outcome(3, 1, 9, max, 1), min);
        Check.due("2 times", outcome(3, 2, 9, -7, 2), -14);
        Check.due("2 wraps", outcome(3, 2, 9, max, 2), -2);
        Check.due("3 by, cut", outcome(3, 3, 9, -7, 2), -3);
        Check.due("3 by, cut", outcome(3, 3, 9, 7, -2), -3);
        Check.due("3 wraps", outcome(3, 3, 9, min, -1), min);
        Check.due("4 k", outcome(3, 4, Check.MIN, 1, 2), Check.MIN);
        Check.due("5 the first and k", outcome(3, 5, -9, 5, 2), -4);
        Check.due("5 wraps", outcome(3, 5, 1, max, 2), min);
        Check.due("cut to a byte", outcome(0, 1, 0, 100, 100), (byte) 200);
        Check.due("cut to a short", outcome(1, 2, 0, 300, 300), (short) 90000);
        Check.due("cut to an int", outcome(2, 2, 0, 1L << 20, 1L << 20), 0);
        Check.due("read as it stands, not as it was", outcome(2, 0, 0, 1L << 32, 0), 0);
        lacking();
    }

    /** ACTS without AIMS: what is not there is 0, and without AIM 0 nothing is written. */
    private static void lacking() {
        LoopLoom x = new LoopLoom();
        Check.square(x, 3, 1);
        x.lay(0, 0, 0, 5);
        int act = x.act(Check.NONE, 1, 0);
        Check.due("no AIMS at all", x.run(false), 1);
        Check.due("nothing is written", Check.at(x, 0, 0, 0), 5);
        x.aim(act, 2, 0, 0, 0);
        Check.due("reads alone", x.run(false), 1);
        x.aim(act, 0, 0, 0, 0);
        Check.due("0 and 5", x.run(false), 1);
        Check.due("it is", Check.at(x, 0, 0, 0), 5);
        LoopLoom y = new LoopLoom();
        Check.square(y, 3, 1);
        y.lay(0, 0, 0, 5);
        y.act(Check.NONE, 3, 0);
        y.aim(0, 2, 0, 0, 0);
        y.aim(0, 0, 0, 0, 0);
        Check.due("0 by 5", y.run(false), 1);
        Check.due("it is", Check.at(y, 0, 0, 0), 0);
        Check.met(y, "0 by 0", 0, y.run(false), Check.NOUGHT);
        LoopLoom z = new LoopLoom();
        z.act(Check.NONE, 3, 1);
        Check.met(z, "no AIM 2 is 0", 0, z.run(false), Check.NOUGHT);
    }

    /** One ACT, 3 by sort: which of several FINDINGS is met first. */
    private static void findings() {
        LoopLoom x = new LoopLoom();
        int one = Check.number(x, 1);
        int two = Check.number(x, 2);
        int low = Check.number(x, -1);
        x.array(3, 2);
        x.row(0, 0, 2);
        int act = x.act(Check.NONE, 3, 0);
        x.aim(act, 1, 0, one, 0);
        x.aim(act, 2, 0, two, 0);
        x.aim(act, 0, 0, low, 0);
        Check.met(x, "AIM 1: a row that is missing", 0, x.run(false), Check.NOTHING);
        x.aim(act, 1, 0, 0, 0);
        Check.met(x, "AIM 2: no such row", 0, x.run(false), Check.BEYOND);
        x.aim(act, 2, 0, 0, two);
        Check.met(x, "AIM 2: no such place", 1, x.run(true), Check.BEYOND);
        x.aim(act, 2, 0, 0, low);
        Check.met(x, "AIM 2: no such place", 2, x.run(true), Check.BEYOND);
        x.aim(act, 2, 0, 0, 0);
        Check.met(x, "NOUGHT ahead of AIM 0", 0, x.run(false), Check.NOUGHT);
        x.lay(0, 0, 0, 3);
        Check.met(x, "AIM 0: no such row", 3, x.run(false), Check.BEYOND);
        x.aim(act, 0, 0, one, 0);
        Check.met(x, "AIM 0: a row that is missing", 1, x.run(false), Check.NOTHING);
        x.row(0, 1, 0);
        Check.met(x, "AIM 0: no such place", 4, x.run(false), Check.BEYOND);
        x.row(0, 1, 1);
        Check.due("all is there", x.run(false), 1);
        Check.due("3 by 3", Check.at(x, 0, 1, 0), 1);
    }

    private static void ended() {
        Check.promise(41);
        LoopLoom x = chain();
        Check.due("ended(0) before", x.ended(0), 0);
        Check.due("ended(1) before", x.ended(1), Check.NONE);
        x.run(false);
        int[] all = {4, Check.NONE, Check.NONE, Check.NONE, Check.NONE, Check.NONE};
        for (int what = 0; what < 6; what++) Check.due("ended(" + what + ")", x.ended(what), all[what]);
        x.row(0, 0, 3);
        Check.met(x, "run(false)", 0, x.run(false), Check.BEYOND);
        int[] met = {2, 1, 100003, 100000, 100000, 100000};
        for (int what = 0; what < 6; what++) Check.due("ended(" + what + ")", x.ended(what), met[what]);
        Check.due("what was written stays", Check.at(x, 0, 0, 2), 2);
        x.back(0);
        Check.met(x, "run(true)", 1, x.run(true), Check.BEYOND);
        Check.due("at once", x.ended(0), 0);
        Check.due("at 4", x.ended(2), 100004);
        int far = x.loop(Check.NONE, 0, Check.number(x, 400), false);
        x.act(far, 4, 0);
        Check.due("SPENT", x.run(false), Check.SPENT);
        Check.due("leaves it", x.ended(2), 100004);
        Check.due("ended(6)", x.ended(6), Check.BAD);
        Check.due("ended(-1)", x.ended(-1), Check.BAD);
        LoopLoom y = new LoopLoom();
        int low = Check.number(y, -5);
        y.act(y.loop(Check.NONE, low, low, false), 3, 0);
        y.run(false);
        Check.due("a POINT below 0", y.ended(2), 99995);
    }

    private static void fetched() {
        Check.promise(42);
        int[][] bad = {{0, 1}, {17, 1}, {1, 0}, {1, 21}, {-1, 1}, {1, Check.MIN}, {Check.MAX, 1}};
        for (int[] b : bad) {
            Check.due("fetched(" + b[0] + ", " + b[1] + ")", spent().fetched(b[0], b[1]), Check.BAD);
        }
        Check.due("SPENT", spent().fetched(1, 1), Check.SPENT);
        LoopLoom x = chain();
        // Places 0 1, 1 2, 2 3, 3 4.
        Check.due("fetched(16, 1)", x.fetched(16, 1), 5);
        Check.due("fetched(1, 1): 1 is still there when it is read", x.fetched(1, 1), 5);
        Check.due("fetched(1, 2): 0 0, 0 1, 1 1, 1 2", x.fetched(1, 2), 3);
        Check.due("fetched(16, 20)", x.fetched(16, 20), 1);
        x.back(0);
        // Places 3 4, 2 3, 1 2, 0 1: each is met again behind two others.
        Check.due("fetched(2, 1) from behind", x.fetched(2, 1), 8);
        Check.due("fetched(3, 1) from behind", x.fetched(3, 1), 5);
        Check.due("ARRAYS are not changed", Check.at(x, 0, 0, 1), 0);
        lastTouched();
        below();
    }

    /** Places 0 1 0 2 0 1 by one ACT each: with a room of two 0 stays, as it is TOUCHED again. */
    private static void lastTouched() {
        LoopLoom x = new LoopLoom();
        x.array(0, 0);
        int one = Check.number(x, 1);
        int two = Check.number(x, 2);
        int[] places = {0, one, 0, two, 0, one};
        for (int p : places) x.aim(x.act(Check.NONE, 0, 0), 1, 0, 0, p);
        Check.due("fetched(2, 1)", x.fetched(2, 1), 4);
        Check.due("fetched(1, 1)", x.fetched(1, 1), 6);
        Check.due("fetched(3, 1)", x.fetched(3, 1), 3);
        LoopLoom y = new LoopLoom();
        y.array(0, 0);
        y.array(0, 0);
        int act = y.act(Check.NONE, 0, 0);
        y.aim(act, 0, 0, 0, 0);
        y.aim(act, 1, 0, Check.number(y, 1), 0);
        y.aim(act, 2, 0, 0, 0);
        Check.due("AIMS 1, 2, 0: the last two are one", y.fetched(1, 1), 2);
        y.aim(act, 2, 1, 0, 0);
        Check.due("another ARRAY is another PIECE", y.fetched(16, 20), 3);
    }

    /** Places -2 .. 2 by 2, towards below: -2 -1 | 0 1 | 2. */
    private static void below() {
        LoopLoom x = new LoopLoom();
        x.array(0, 0);
        int loop = x.loop(Check.NONE, Check.number(x, -2), Check.number(x, 2), false);
        x.aim(x.act(loop, 0, 0), 1, 0, 0, Check.letter(x, 0));
        Check.due("fetched(1, 2)", x.fetched(1, 2), 3);
    }

    private static void best() {
        Check.promise(43);
        LoopLoom x = chain();
        int[][] bad = {{-1, 1, 1}, {2, 1, 1}, {0, 0, 1}, {0, 17, 1}, {0, 1, 0}, {0, 1, 21}, {1, 0, 1}};
        for (int[] b : bad) Check.due("best BAD", x.best(b[0], b[1], b[2]), Check.BAD);
        Check.met(x, "no LOOP", 0, x.best(1, 1, 1), Check.UNLIKE);
        Check.due("SPENT ahead of UNLIKE", spent().best(1, 1, 1), Check.SPENT);
        Check.due("BAD ahead of SPENT", spent().best(2, 1, 1), Check.BAD);
        Check.due("none is best", x.best(0, 1, 1), 5);
        Check.due("nothing is made", x.count(4), 0);
        x.back(0);
        Check.due("only back is ALLOWED", x.best(0, 1, 1), 5);
        Check.due("it is made", x.count(4), 2);
        Check.due("it is ALLOWED", x.allowed(), 1);
        Check.due("undo()", x.undo(), 1);
        Check.due("which was not", x.allowed(), 0);
        x.shift(1, 0, 5);
        x.tile(0, 1, 3);
        x.back(0);
        x.tile(0, 1, 3);
        long digest = x.digest();
        Check.due("with none of these", x.best(0, 1, 1), Check.NONE);
        Check.due("all stays", x.digest(), digest);
        Check.due("count(4)", x.count(4), 5);
    }

    /** x[j][i] for i, j: to change places is best with PIECES of rows; without an ACT all are alike. */
    private static void bestOfLoops() {
        LoopLoom x = new LoopLoom();
        Check.square(x, 0, 4);
        int last = Check.number(x, 3);
        int outer = x.loop(Check.NONE, 0, last, false);
        int inner = x.loop(outer, 0, last, false);
        int act = x.act(inner, 4, 1);
        x.aim(act, 0, 0, Check.letter(x, 1), Check.letter(x, 0));
        Check.due("fetched(1, 4)", x.fetched(1, 4), 16);
        Check.due("best(outer, 1, 4)", x.best(outer, 1, 4), 4);
        Check.due("by swap(outer, 1)", x.order(act, 1, 2), 1000001);
        Check.due("count(4)", x.count(4), 1);
        Check.due("fetched(1, 4)", x.fetched(1, 4), 4);
        Check.due("best again: none", x.best(outer, 1, 4), 4);
        Check.due("count(4)", x.count(4), 1);
        Check.due("of all alike the first", x.best(inner, 16, 20), 4);
        Check.due("count(4)", x.count(4), 1);
        LoopLoom y = new LoopLoom();
        y.loop(Check.NONE, 0, 0, false);
        Check.due("no ACT", y.best(0, 1, 1), 0);
    }

    private static void lines() {
        Check.promise(44);
        LoopLoom x = chain();
        Check.due("one LINE", x.lines(), 1);
        x.tile(0, 1, 2);
        x.back(0);
        // From behind in tiles 1 | 2 3 | 4: 1, 3, 2, 4.
        Check.due("1 3 | 2 4", x.lines(), 2);
        Check.due("SPENT", spent().lines(), Check.SPENT);
        Check.due("none", new LoopLoom().lines(), 0);
        LoopLoom y = new LoopLoom();
        y.loop(Check.NONE, 0, Check.number(y, 2), false);
        y.act(0, 4, 0);
        y.act(0, 4, 0);
        Check.due("ACTS by turns: all alone", y.lines(), 6);
        y.part(0);
        Check.due("one behind the other", y.lines(), 2);
        y.undo();
        Check.due("as it was", y.lines(), 6);
    }

    private static void written() {
        Check.promise(45);
        LoopLoom x = new LoopLoom();
        int last = Check.number(x, 2);
        int outer = x.loop(Check.NONE, 0, last, false);
        int test = x.test(outer, Check.letter(x, 0), 2);
        int inner = x.loop(test, Check.letter(x, 0), last, false);
        x.act(inner, 4, 0);
        x.act(Check.NONE, 4, 0);
        // 0,0 0,1 0,2 | 2,2 | the ACT at the top.
        long[][] want = {{3, 0, 0, 0, 0, 0, 1, 0, 0, 3}, {3, 2, 2, 0, 0, 0, 0, 0, 0, 1}, {4, 0, 0, 0, 0, 0, 0, 0, 0, 1}};
        Check.due("lines()", x.lines(), 3);
        for (int i = 0; i < 3; i++) {
            for (int what = 0; what < 10; what++) {
                Check.asked(x, "written(" + i + ", " + what + ")", x.written(i, what), want[i][what]);
            }
        }
        x.back(inner);
        Check.asked(x, "from behind: its first POINT", x.written(0, 2), 2);
        Check.asked(x, "how POINTS differ", x.written(0, 6), -1);
        Check.asked(x, "how many", x.written(0, 9), 3);
        Check.due("none such", x.written(3, 0), Check.NONE);
        Check.due("none such", x.written(-1, 0), Check.NONE);
        Check.due("written(0, 10)", x.written(0, 10), Check.BAD);
        Check.due("written(9, -1)", x.written(9, -1), Check.BAD);
        Check.due("asked() stays", x.asked(), 3);
        Check.due("SPENT ahead of NONE", spent().written(-1, 0), Check.SPENT);
        Check.due("BAD ahead of SPENT", spent().written(0, 10), Check.BAD);
    }
}
