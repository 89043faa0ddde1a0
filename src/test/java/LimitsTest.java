/** Programs as great as the document lets them be: nothing may break at the last place of a row. */
public final class LimitsTest {
    public static void main(String[] args) {
        oneLine();
        manyPlaces();
        unlikePlaces();
        onePlace();
        manyActs();
        deepTests();
        tileOfFew();
        greatLetters();
        farPlaces();
        Check.end();
    }

    /** LOOPS 0 and 1 of 20 turns each with ACT 2; SUMS 2 and 3 are their LETTERS. */
    private static LoopLoom square() {
        LoopLoom x = new LoopLoom();
        int last = Check.number(x, 19);
        Check.letter(x, 0);
        Check.letter(x, 1);
        Check.square(x, 3, 20);
        x.loop(Check.NONE, 0, last, false);
        x.loop(0, 0, last, false);
        x.act(1, 5, 1);
        return x;
    }

    private static void oneLine() {
        Check.promise(44);
        LoopLoom x = new LoopLoom();
        x.loop(Check.NONE, 0, Check.number(x, 399), false);
        x.act(0, 4, 0);
        Check.due("one LINE", x.lines(), 1);
        Check.asked(x, "of 400 VISITS", x.written(0, 9), 400);
        x.back(0);
        Check.due("and from behind", x.lines(), 1);
        Check.asked(x, "it begins at 399", x.written(0, 1), 399);
        Check.due("the last VISIT", x.visit(399, 1, true), 100000);
        Check.due("points", x.points(1), 400);
        Check.due("run(true)", x.run(true), 400);
        LoopLoom y = new LoopLoom();
        y.loop(Check.NONE, 0, Check.number(y, 199), false);
        y.act(0, 4, 0);
        y.act(0, 4, 0);
        Check.due("400 LINES", y.lines(), 400);
        Check.asked(y, "the last one", y.written(399, 0), 2);
        Check.due("none behind it", y.written(400, 0), Check.NONE);
    }

    private static void manyPlaces() {
        Check.promise(25);
        LoopLoom x = square();
        x.aim(2, 0, 0, 2, 3);
        x.aim(2, 1, 0, 2, 3);
        Check.due("400 places: carried(0)", x.carried(0), 0);
        Check.due("carried(1)", x.carried(1), 0);
        Check.due("all may change places", x.swap(0, 1), 1);
        Check.due("allowed()", x.allowed(), 1);
        Check.due("run(true)", x.run(true), 400);
        Check.due("fetched(16, 1)", x.fetched(16, 1), 400);
        x.aim(2, 2, 0, 3, 2);
        Check.due("read across, a place later written", x.needs(2, 2, 1), 190);
        Check.due("or written before", x.needs(2, 2, 0), 190);
        Check.due("in the new order: not ALLOWED", x.allowed(), 0);
        Check.due("the first is read at 0,1", x.why(0), 1);
        Check.due("and written at 1,0", x.why(1), 20);
        x.aim(2, 2, 0, 3, Check.sum(x, 4, 1, 0, 400));
        Check.due("400 places more", x.carried(0) + x.carried(1), 0);
        Check.due("fetched(16, 1)", x.fetched(16, 1), 800);
    }

    /** 1200 places, no two alike, in rows and places that are alike often: they may not be mixed up. */
    private static void unlikePlaces() {
        for (int k = 1; k <= 12; k++) {
            LoopLoom x = square();
            x.aim(2, 0, 0, 2, Check.sum(x, 5, k));
            x.aim(2, 1, 0, Check.sum(x, 4, -k, 0, -1), 3);
            x.aim(2, 2, 0, 3, Check.sum(x, 4, 1, 0, 20 * k));
            Check.due("carried(0)", x.carried(0), 0);
            Check.due("carried(1)", x.carried(1), 0);
            x.back(0);
            x.swap(0, 1);
            Check.due("allowed()", x.allowed(), 1);
        }
    }

    private static void onePlace() {
        LoopLoom x = square();
        for (int which = 0; which < 3; which++) x.aim(2, which, 0, 0, 0);
        for (int kind = 0; kind < 3; kind++) Check.due("all pairs", x.needs(2, 2, kind), 400 * 399 / 2);
        Check.due("carried(1)", x.carried(1), 3 * 20 * 190);
        Check.due("carried(0)", x.carried(0), 3 * 190 * 400);
        Check.asked(x, "distance", x.distance(2, 2, 1, false), -19);
        Check.due("why(0)", x.why(0), Check.NONE);
        x.back(1);
        Check.due("why(1)", x.why(1), 1);
    }

    private static void manyActs() {
        Check.promise(33);
        LoopLoom x = new LoopLoom();
        int last = Check.number(x, 1);
        Check.square(x, 2, 4);
        int parent = Check.NONE;
        for (int d = 0; d < 4; d++) parent = x.loop(parent, 0, last, false);
        int i = Check.letter(x, 3);
        for (int a = 0; a < 12; a++) {
            int act = x.act(parent, 5, 1);
            x.aim(act, 0, 0, 0, i);
            x.aim(act, 1, 0, 0, i);
        }
        Check.due("192 VISITS", x.visits(), 192);
        Check.due("tile(0, 4, 20)", x.tile(0, 4, 20), 1);
        Check.due("tile(1, 3, 20)", x.tile(1, 3, 20), 1);
        Check.due("16 ROWS", x.order(15, 15, 0), 1000015);
        Check.due("no more", x.order(15, 16, 0), Check.NONE);
        Check.due("FULL", x.tile(3, 1, 2), Check.FULL);
        Check.due("allowed()", x.allowed(), 1);
        Check.due("free(3)", x.free(3), 1);
        Check.due("free(2)", x.free(2), 0);
        Check.due("part(3)", x.part(3), 1);
        Check.due("lean(0, 3, 1)", x.lean(0, 3, 1), 1);
        Check.due("swap(0, 3)", x.swap(0, 3), 1);
        Check.due("back(2)", x.back(2), 1);
        Check.due("run(true)", x.run(true), 192);
        Check.due("best(0, 16, 20)", x.best(0, 16, 20) >= Check.NONE ? 1 : 0, 1);
        for (int k = 0; k < 6; k++) x.undo();
        Check.due("as at first", x.order(15, 8, 0), 1000015);
    }

    private static void deepTests() {
        Check.promise(21);
        LoopLoom x = new LoopLoom();
        int last = Check.number(x, 9);
        int parent = Check.NONE;
        for (int d = 0; d < 39; d++) parent = d % 13 == 5 ? x.loop(parent, 0, last, false) : x.test(parent, 0, d);
        int act = x.act(parent, 4, 0);
        Check.due("the fortieth NODE", act, 39);
        Check.due("three LOOPS around it, of 10 turns", x.visits(), Check.SPENT);
        LoopLoom y = new LoopLoom();
        parent = Check.NONE;
        for (int d = 0; d < 39; d++) parent = y.test(parent, 0, 1);
        y.act(parent, 4, 0);
        Check.due("39 TESTS around it", y.visits(), 1);
        Check.due("PLACE 0", y.order(39, 0, 0), 1000000);
        Check.due("run(true)", y.run(true), 1);
        LoopLoom z = new LoopLoom();
        for (int n = 0; n < 40; n++) z.act(z.test(Check.NONE, 0, 0), 4, 0);
        Check.due("12 ACTS, each in a TEST", z.visits(), 12);
        Check.due("40 NODES beside one another", z.count(1), 40);
    }

    /** An ACT whose ORDER is full hinders no tile() that is not for it. */
    private static void tileOfFew() {
        Check.promise(33);
        LoopLoom x = new LoopLoom();
        x.loop(Check.NONE, 0, 0, false);
        int few = x.act(0, 4, 0);
        for (int k = 0; k < 13; k++) Check.due("tile(0, 1, 2)", x.tile(0, 1, 2), 1);
        Check.due("16 ROWS", x.order(few, 15, 5), 1);
        Check.due("17", x.tile(0, 1, 2), Check.FULL);
        Check.due("it has no LETTER 1", x.tile(0, 2, 2), 1);
        Check.due("all of its ROWS stay", x.order(few, 15, 0), 1000001);
        for (int i = 1; i < 14; i++) Check.due("WIDTH", x.order(few, i, 5), 2);
    }

    /** LETTERS of 400000, 400000000, 400000000000: SUMS and POINTS are longs. */
    private static void greatLetters() {
        Check.promise(45);
        LoopLoom x = new LoopLoom();
        x.size(0, 400);
        int[] sums = {Check.sum(x, 1, 1000), Check.sum(x, 4, 1000), Check.sum(x, 5, 1000), Check.sum(x, 6, 1000)};
        int parent = Check.NONE;
        for (int s : sums) parent = x.loop(parent, s, s, false);
        int act = x.act(parent, 0, 0);
        long letter = 400;
        for (int d = 0; d < 4; d++) {
            letter *= 1000;
            Check.asked(x, "LETTER " + d, x.written(0, 1 + d), letter);
        }
        Check.due("visit(0, 2, false)", x.visit(0, 2, false), 400100000);
        Check.due("has, of an int that is alike below", x.has(act, 400000, 400000000, (int) 400000000000L, 0), 0);
        x.array(3, 1);
        x.aim(act, 1, 0, 0, Check.sum(x, 7, 1000));
        Check.due("fetched(1, 20)", x.fetched(1, 20), 1);
        Check.due("back(3)", x.back(3), 1);
        Check.due("allowed()", x.allowed(), 1);
    }
    /** 2 ** 35 is no place, though its lowest 32 bits are 0. */
    private static void farPlaces() {
        Check.promise(40);
        LoopLoom x = new LoopLoom();
        x.size(0, 256);
        int first = Check.sum(x, 1, 512);
        int second = Check.sum(x, 4, 512);
        int far = Check.sum(x, 5, 512);
        int outer = x.loop(Check.NONE, first, first, false);
        int act = x.act(x.loop(outer, second, second, false), 0, 0);
        Check.square(x, 3, 1);
        x.aim(act, 1, 0, 0, far);
        Check.met(x, "run(false)", 0, x.run(false), Check.BEYOND);
        x.aim(act, 1, 0, far, 0);
        Check.met(x, "run(false)", 1, x.run(false), Check.BEYOND);
        x.aim(act, 0, 0, 0, 0);
        Check.due("another place", x.fetched(16, 20), 2);
    }
}
