/** Promises 1 to 4. */
public final class SumsTest {
    public static void main(String[] args) {
        newObject();
        size();
        term();
        sum();
        Check.end();
    }

    private static void newObject() {
        Check.promise(1);
        LoopLoom x = new LoopLoom();
        Check.due("count(0)", x.count(0), 1);
        for (int what = 1; what <= 4; what++) Check.due("count(" + what + ")", x.count(what), 0);
        Check.due("visits()", x.visits(), 0);
        Check.due("asked()", x.asked(), 0);
        Check.due("finding()", x.finding(), 0);
        for (int f = 1; f <= 5; f++) Check.due("findings(" + f + ")", x.findings(f), 0);
        Check.due("undo()", x.undo(), Check.STATE);
        Check.due("ended(0)", x.ended(0), 0);
        for (int what = 1; what <= 5; what++) Check.due("ended(" + what + ")", x.ended(what), Check.NONE);
        Check.due("digest()", x.digest(), 17L * 31 * 31 * 31);
        Check.due("the draft is empty: sum()", x.sum(), 1);
        Check.due("value of SUM 0", value(x, 0), 0);
        Check.due("value of SUM 1", value(x, 1), 0);
        x.size(0, 7);
        Check.due("value of SUM 0 still", value(x, 0), 0);
        LoopLoom y = new LoopLoom();
        Check.due("objects share nothing: count(1)", y.count(1), 0);
        Check.due("size(0, 0)", y.size(0, 0), 0);
    }

    /** What a SUM without LETTERS is: the POINT of the latest ACT in a LOOP from it to it. */
    private static long value(LoopLoom x, int s) {
        x.act(x.loop(Check.NONE, s, s, false), 4, 0);
        return x.visit(x.visits() - 1, 1, false) - 100000L;
    }

    private static void size() {
        Check.promise(2);
        LoopLoom x = new LoopLoom();
        Check.due("size(0, 5)", x.size(0, 5), 0);
        Check.due("size(0, -400)", x.size(0, -400), 5);
        Check.due("size(1, 400)", x.size(1, 400), 0);
        Check.due("size(2, 2)", x.size(2, 2), 0);
        int[][] bad = {{-1, 0}, {3, 0}, {0, 401}, {0, -401}, {Check.MIN, 0}, {Check.MAX, Check.MAX}, {-9, 0}};
        for (int[] b : bad) Check.due("size(" + b[0] + ", " + b[1] + ")", x.size(b[0], b[1]), -1000);
        Check.due("size(0, 0)", x.size(0, 0), -400);
        Check.due("size(1, 0)", x.size(1, 0), 400);
        Check.due("size(2, 0)", x.size(2, 0), 2);
        int s = Check.sum(x, 1, 1);
        int loop = x.loop(Check.NONE, 0, s, false);
        int act = x.act(loop, 4, 0);
        x.back(loop);
        Check.due("visits()", x.visits(), 1);
        x.size(0, 3);
        Check.due("visits() with SIZE 3", x.visits(), 4);
        Check.due("ORDERS stay: order(1, 1, 1)", x.order(act, 1, 1), 999999);
        Check.due("ORDERS stay: count(4)", x.count(4), 1);
        Check.due("visit(0, 1, true)", x.visit(0, 1, true), 100003);
        x.size(0, -1);
        Check.due("visits() with SIZE -1", x.visits(), 0);
    }

    private static void term() {
        Check.promise(3);
        LoopLoom x = new LoopLoom();
        for (int which = 0; which <= 7; which++) {
            Check.due("term(" + which + ", 1000)", x.term(which, 1000), 1);
            Check.due("term(" + which + ", -1000)", x.term(which, -1000), 1);
            Check.due("term(" + which + ", 1001)", x.term(which, 1001), Check.BAD);
            Check.due("term(" + which + ", -1001)", x.term(which, -1001), Check.BAD);
            Check.due("term(" + which + ", 0)", x.term(which, 0), 1);
        }
        Check.due("term(8, 0)", x.term(8, 0), Check.BAD);
        Check.due("term(-1, 0)", x.term(-1, 0), Check.BAD);
        Check.due("term(MIN, 0)", x.term(Check.MIN, 0), Check.BAD);
        Check.due("term(MAX, 0)", x.term(Check.MAX, 0), Check.BAD);
        for (int s = 0; s < 3; s++) x.size(s, 10 + s);
        x.term(0, 9);
        x.term(0, 5);
        x.term(0, 1001);
        x.term(1, 2);
        x.term(2, -3);
        x.term(3, 4);
        Check.due("value", value(x, x.sum()), 5 + 2 * 10 - 3 * 11 + 4 * 12);
        letters();
    }

    /** A TEST in four LOOPS of which each has one turn, at 1, 2, 3 and 4. */
    private static void letters() {
        LoopLoom x = new LoopLoom();
        int parent = Check.NONE;
        for (int d = 0; d < 4; d++) {
            int s = Check.number(x, d + 1);
            parent = x.loop(parent, s, s, false);
        }
        int s = Check.sum(x, 4, 1000, 5, -100, 6, 10, 7, -1, 0, -825);
        int act = x.act(parent, 4, 0);
        int array = Check.square(x, 3, 2);
        Check.due("aim", x.aim(act, 0, array, 0, s), 1);
        Check.due("1000 - 200 + 30 - 4 - 825 = 1, which is a place: run(false)", x.run(false), 1);
    }

    private static void sum() {
        Check.promise(4);
        LoopLoom x = new LoopLoom();
        x.term(0, 3);
        Check.due("sum()", x.sum(), 1);
        Check.due("the draft is empty then: sum()", x.sum(), 2);
        Check.due("value of 1", value(x, 1), 3);
        Check.due("value of 2", value(x, 2), 0);
        for (int s = 3; s < 80; s++) Check.due("sum()", x.sum(), s);
        Check.due("count(0)", x.count(0), 80);
        x.term(0, 1);
        Check.due("sum() beyond 80", x.sum(), Check.FULL);
        Check.due("sum() beyond 80", x.sum(), Check.FULL);
        Check.due("count(0)", x.count(0), 80);
        Check.due("loop with SUM 80", x.loop(Check.NONE, 80, 0, false), Check.BAD);
        Check.due("FULL is no FINDING", x.finding(), 0);
    }
}
