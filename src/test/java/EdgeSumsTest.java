/** Terms 1 and promises 1 to 4: a test for each sentence that names a boundary. */
public final class EdgeSumsTest {
    public static void main(String[] args) {
        sizesAreNumbers();
        sizesAtFirst();
        letters();
        eightySums();
        sumNought();
        termsInSums();
        longs();
        newObject();
        whatASizeWas();
        whatSizesChange();
        ordersStay();
        whichTerm();
        howMuch();
        emptyDraft();
        fullSums();
        Check.end();
    }

    /** What a SUM without LETTERS is: the LETTER of the latest ACT, in a LOOP from it to it. */
    private static long value(LoopLoom x, int s) {
        x.act(x.loop(Check.NONE, s, s, false), 4, 0);
        Check.due("written() of a LOOP from SUM " + s, x.written(x.lines() - 1, 1), 1);
        return x.asked();
    }

    private static void sizesAreNumbers() {
        Check.sentence("Terms 1", "SIZES 0, 1, 2 are numbers (-400 .. 400");
        LoopLoom x = new LoopLoom();
        for (int which = 0; which < 3; which++) {
            String size = "size(" + which + ", ";
            Check.due(size + "400)", x.size(which, 400), 0);
            Check.due(size + "401)", x.size(which, 401), -1000);
            Check.due(size + "-400)", x.size(which, -400), 400);
            Check.due(size + "-401)", x.size(which, -401), -1000);
            Check.due(size + "MIN)", x.size(which, Check.MIN), -1000);
            Check.due(size + "MAX)", x.size(which, Check.MAX), -1000);
            Check.due(size + "0)", x.size(which, 0), -400);
        }
        int[] none = {-1, 3, -9, Check.MIN, Check.MAX};
        for (int which : none) Check.due("size(" + which + ", 0)", x.size(which, 0), -1000);
        Check.due("no FINDING", x.finding(), 0);
    }

    private static void sizesAtFirst() {
        Check.sentence("Terms 1", "0 at first");
        LoopLoom x = new LoopLoom();
        Check.due("1 and 1000 times each SIZE", value(x, Check.sum(x, 0, 1, 1, 1000, 2, 1000, 3, 1000)), 1);
        for (int which = 0; which < 3; which++) Check.due("size(" + which + ", 0)", x.size(which, 0), 0);
    }

    private static void letters() {
        Check.sentence("Terms 1", "LETTERS 0 .. 3 are the numbers of the loops around, the outermost first");
        LoopLoom x = new LoopLoom();
        int parent = Check.NONE;
        int[] numbers = {7, -3, 11, 2};
        for (int d = 0; d < 4; d++) {
            int s = Check.number(x, numbers[d]);
            parent = x.loop(parent, s, s, false);
        }
        x.act(parent, 4, 0);
        Check.same("four LOOPS", Check.told(x, false, 4), "4:7,-3,11,2");
        int array = Check.square(x, 3, 20);
        for (int d = 0; d < 4; d++) {
            x.aim(4, 0, array, 0, Check.sum(x, 4 + d, 1, 0, 5));
            x.run(false);
            Check.due("ended(0) of one that writes at LETTER " + d + " and 5", x.ended(0), 1);
        }
        for (int j = 0; j < 20; j++) x.lay(array, 0, j, 9);
        x.run(false);
        Check.due("LETTER 3 and 5 is 7", Check.at(x, array, 0, 7), 0);
    }

    private static void eightySums() {
        Check.sentence("Terms 1", "A SUM 0, 1, .. (80 at most");
        LoopLoom x = new LoopLoom();
        for (int s = 1; s < 80; s++) Check.due("sum()", Check.number(x, s), s);
        Check.due("count(0)", x.count(0), 80);
        Check.due("the eighty-first", x.sum(), Check.FULL);
        Check.due("count(0)", x.count(0), 80);
        Check.due("SUM 80 is none", x.loop(Check.NONE, 80, 0, false), Check.BAD);
        Check.due("SUM 80 is none", x.loop(Check.NONE, 0, 80, false), Check.BAD);
        Check.due("SUM 79 is one", value(x, 79), 79);
    }

    private static void sumNought() {
        Check.sentence("Terms 1", "0 is there, and is nothing");
        LoopLoom x = new LoopLoom();
        Check.due("count(0)", x.count(0), 1);
        for (int which = 0; which < 3; which++) x.size(which, 400);
        Check.due("SUM 0", value(x, 0), 0);
        Check.due("SUM 1 is not there", x.test(Check.NONE, 1, 0), Check.BAD);
        Check.due("SUM -1 is not there", x.test(Check.NONE, -1, 0), Check.BAD);
        Check.due("the first one told is SUM 1", Check.number(x, 5), 1);
        Check.due("SUM 0 still", value(x, 0), 0);
    }

    private static void termsInSums() {
        Check.sentence("Terms 1", "a number, and so many times SIZES 0 .. 2, LETTERS 0 .. 3 (each -1000 .. 1000)");
        LoopLoom x = new LoopLoom();
        int[] sizes = {3, -5, 7};
        for (int which = 0; which < 3; which++) x.size(which, sizes[which]);
        Check.due("the number 1000", value(x, Check.number(x, 1000)), 1000);
        Check.due("the number -1000", value(x, Check.number(x, -1000)), -1000);
        for (int which = 0; which < 3; which++) {
            Check.due("1000 times SIZE " + which, value(x, Check.sum(x, 1 + which, 1000)), 1000 * sizes[which]);
            Check.due("-1000 times SIZE " + which, value(x, Check.sum(x, 1 + which, -1000)), -1000 * sizes[which]);
        }
        LoopLoom y = new LoopLoom();
        int[] ends = {1000, -1000};
        int parent = Check.NONE;
        for (int d = 0; d < 3; d++) parent = y.loop(parent, Check.number(y, d + 1), Check.number(y, d + 1), false);
        for (int d = 0; d < 3; d++) {
            for (int times : ends) {
                int s = Check.sum(y, 4 + d, times);
                y.act(y.loop(parent, s, s, false), 4, 0);
                Check.asked(y, times + " times LETTER " + d, y.written(y.lines() - 1, 4), (d + 1L) * times);
            }
        }
    }

    /** 1000 * 1200000 and 1200000000 is above 2 ** 31, where an int would be below 0. */
    private static void longs() {
        Check.sentence("Terms 1", "Sums are reckoned as longs");
        LoopLoom x = new LoopLoom();
        for (int which = 0; which < 3; which++) x.size(which, 400);
        int great = Check.sum(x, 1, 1000, 2, 1000, 3, 1000);
        int times = Check.sum(x, 4, 1000);
        int outer = x.loop(Check.NONE, great, great, false);
        int inner = x.loop(outer, times, times, false);
        x.act(x.test(inner, Check.sum(x, 4, 1000, 5, 1), 0), 4, 0);
        Check.due("2400000000 is not below 0", x.visits(), 1);
        int last = Check.sum(x, 5, 1000, 0, 7);
        x.act(x.loop(inner, last, last, false), 4, 0);
        Check.asked(x, "LETTER 2", x.written(1, 3), 1200000000007L);
    }

    private static void newObject() {
        Check.sentence("promise 1", "Nothing but SUM 0; an empty draft");
        LoopLoom x = new LoopLoom();
        int[] counts = {1, 0, 0, 0, 0};
        for (int what = 0; what < 5; what++) Check.due("count(" + what + ")", x.count(what), counts[what]);
        Check.due("node(0, 0)", x.node(0, 0), Check.BAD);
        Check.due("get(0, 0, 0)", x.get(0, 0, 0), Check.BAD);
        Check.due("undo()", x.undo(), Check.STATE);
        Check.due("visits()", x.visits(), 0);
        Check.due("asked()", x.asked(), 0);
        for (int which = 0; which < 3; which++) x.size(which, 1 + which);
        Check.due("sum()", x.sum(), 1);
        Check.due("the draft had no term: it may stand at the top", value(x, 1), 0);
    }

    private static void whatASizeWas() {
        Check.sentence("promise 2", "A SIZE is v: what it was (as -1000 for BAD)");
        LoopLoom x = new LoopLoom();
        int s = Check.sum(x, 1, 1);
        x.act(x.loop(Check.NONE, 0, s, false), 4, 0);
        Check.due("size(0, 3)", x.size(0, 3), 0);
        Check.due("visits()", x.visits(), 4);
        Check.due("size(0, 401)", x.size(0, 401), -1000);
        Check.due("BAD: it is as it was", x.visits(), 4);
        Check.due("size(0, 3) again", x.size(0, 3), 3);
        Check.due("size(1, 9), another one", x.size(1, 9), 0);
        Check.due("visits()", x.visits(), 4);
        Check.due("size(0, -1)", x.size(0, -1), 3);
        Check.due("no turn", x.visits(), 0);
        Check.due("size(0, 0)", x.size(0, 0), -1);
        Check.due("one turn", x.visits(), 1);
    }

    /** All that is asked of VISITS is asked of those with the new SIZE. */
    private static void whatSizesChange() {
        Check.sentence("promise 2", "A SIZE is v");
        LoopLoom x = new LoopLoom();
        x.act(x.loop(Check.NONE, 0, Check.sum(x, 1, 1), false), 4, 0);
        x.array(3, 1);
        x.row(0, 0, 4);
        int at = Check.sum(x, 2, 1);
        x.aim(1, 0, 0, 0, at);
        int[] sizes = {0, 3, 1, 2};
        for (int s : sizes) {
            x.size(0, s);
            Check.due("needs(1, 1, 2)", x.needs(1, 1, 2), s * (s + 1) / 2);
            Check.due("carried(0)", x.carried(0), s * (s + 1) / 2);
            Check.due("free(0)", x.free(0), s == 0 ? 1 : 0);
            Check.due("points(1)", x.points(1), s + 1);
            Check.due("has(1, 3, 0, 0, 0)", x.has(1, 3, 0, 0, 0), s >= 3 ? 1 : 0);
            Check.due("distance(1, 1, 0, true)", x.distance(1, 1, 0, true), s == 0 ? Check.NONE : 1);
            if (s > 0) Check.due("asked()", x.asked(), s);
            Check.due("lines()", x.lines(), 1);
            Check.asked(x, "written(0, 9)", x.written(0, 9), s + 1);
            Check.due("run(true)", x.run(true), s + 1);
            Check.due("fetched(1, 1)", x.fetched(1, 1), 1);
        }
        x.size(1, 3);
        Check.due("place 3", x.run(false), 3);
        x.size(1, 4);
        Check.met(x, "place 4", 0, x.run(false), Check.BEYOND);
    }

    private static void ordersStay() {
        Check.sentence("promise 2", "ORDERS stay");
        LoopLoom x = new LoopLoom();
        x.act(x.loop(Check.NONE, 0, Check.sum(x, 1, 1), false), 4, 0);
        x.back(0);
        x.shift(1, 0, 5);
        x.size(0, 2);
        Check.same("the LOOP ROW", Check.rowOf(x, 1, 1), "5 -1 0 0 0 1 0");
        Check.same("THE NEW ORDER", Check.told(x, true, 1), "1:2 1:1 1:0");
        Check.due("TURNS stay, too", x.undo(), 1);
    }

    private static void whichTerm() {
        Check.sentence("promise 3", "THE DRAFT's number (which = 0), SIZE which - 1 (1 .. 3), LETTER which - 4 (4 .. 7)");
        LoopLoom x = new LoopLoom();
        int[] none = {-1, 8, Check.MIN, Check.MAX};
        for (int which : none) Check.due("term(" + which + ", 0)", x.term(which, 0), Check.BAD);
        for (int which = 0; which < 8; which++) Check.due("term(" + which + ", 0)", x.term(which, 0), 1);
        int deep = Check.NONE;
        for (int d = 0; d < 4; d++) {
            int own = Check.letter(x, d);
            Check.due("LETTER " + d + " in itself", x.loop(deep, 0, own, false), Check.BAD);
            deep = x.loop(deep, 0, 0, false);
            Check.due("LETTER " + d + " in its LOOP", x.test(deep, own, 0) >= 0 ? 1 : 0, 1);
        }
        int[] sizes = {20, 300, -7};
        for (int k = 0; k < 3; k++) x.size(k, sizes[k]);
        for (int k = 0; k < 3; k++) Check.due("SIZE " + k, value(x, Check.sum(x, 1 + k, 1)), sizes[k]);
    }

    private static void howMuch() {
        Check.sentence("promise 3", "is v: 1. BAD: also v");
        LoopLoom x = new LoopLoom();
        for (int which = 0; which < 8; which++) {
            String term = "term(" + which + ", ";
            Check.due(term + "1000)", x.term(which, 1000), 1);
            Check.due(term + "1001)", x.term(which, 1001), Check.BAD);
            Check.due(term + "MAX)", x.term(which, Check.MAX), Check.BAD);
            Check.due(term + "-1000)", x.term(which, -1000), 1);
            Check.due(term + "-1001)", x.term(which, -1001), Check.BAD);
            Check.due(term + "MIN)", x.term(which, Check.MIN), Check.BAD);
            Check.due(term + "0)", x.term(which, 0), 1);
        }
        x.term(0, 9);
        x.term(0, 6);
        x.term(0, -1001);
        Check.due("the latest one that is taken", value(x, x.sum()), 6);
    }

    private static void emptyDraft() {
        Check.sentence("promise 4", "THE DRAFT, which is empty then, is a SUM: its number");
        LoopLoom x = new LoopLoom();
        for (int which = 0; which < 8; which++) x.term(which, 5);
        Check.due("sum()", x.sum(), 1);
        Check.due("sum() of an empty draft", x.sum(), 2);
        Check.due("SUM 1 has LETTERS", x.loop(Check.NONE, 1, 1, false), Check.BAD);
        for (int which = 0; which < 3; which++) x.size(which, 1);
        Check.due("SUM 2 has none, and is nothing", value(x, 2), 0);
    }

    private static void fullSums() {
        Check.sentence("promise 4", "FULL (it stays)");
        LoopLoom x = new LoopLoom();
        for (int s = 1; s < 80; s++) Check.number(x, 3);
        x.term(0, 8);
        Check.due("sum()", x.sum(), Check.FULL);
        Check.due("sum() again", x.sum(), Check.FULL);
        Check.due("term() goes on", x.term(0, 9), 1);
        Check.due("count(0)", x.count(0), 80);
        Check.due("no FINDING", x.finding(), 0);
        Check.due("SUM 79", value(x, 79), 3);
        Check.due("SUM 0", value(x, 0), 0);
    }
}
