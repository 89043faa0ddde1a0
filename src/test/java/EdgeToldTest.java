/** The 512 calls, the refusals of Terms and promises 46 to 49: a test for each sentence that names a boundary. */
public final class EdgeToldTest {
    public static void main(String[] args) {
        manyCalls();
        badAheadOfFull();
        badAheadOfSpent();
        badAheadOfFinding();
        fullAheadOfFinding();
        spentAheadOfFinding();
        nothing();
        beyond();
        unlike();
        nought();
        size();
        countTold();
        findingLatest();
        findingBefore();
        findingsHowOften();
        findingsBad();
        digestOfNothing();
        digestInOrder();
        digestMissing();
        digestWraps();
        Check.end();
    }

    /** 400 VISITS with three AIMS, and dear calls up to the last one. */
    private static void manyCalls() {
        Check.sentence("What it is", "An object is used for at most 512 calls after it has been made");
        LoopLoom x = new LoopLoom();
        int last = Check.number(x, 19);
        x.loop(Check.NONE, 0, last, false);
        x.loop(0, 0, last, false);
        x.act(1, 1, 0);
        x.array(3, 1);
        x.row(0, 0, 1);
        for (int which = 0; which < 3; which++) x.aim(2, which, 0, 0, 0);
        int calls = 10;
        while (calls < 508) {
            x.size(0, calls % 7);
            x.back(0);
            x.best(1, 16, 1);
            x.carried(0);
            x.undo();
            x.lines();
            calls += 6;
        }
        while (calls < 511) {
            x.allowed();
            calls++;
        }
        Check.due("the 512th call", x.visits(), 400);
    }

    private static void bad(String name, int got) {
        Check.due(name, got, Check.BAD);
    }

    private static void badAheadOfFull() {
        Check.sentence("Terms", "the first of these that fits, in this order: BAD, FULL");
        LoopLoom x = Recipes.full();
        bad("loop", x.loop(4, 0, 0, false));
        bad("test", x.test(0, 80, 0));
        bad("act", x.act(0, 6, 0));
        bad("array", x.array(4, 0));
        bad("tile", x.tile(0, 5, 2));
        Check.due("loop", x.loop(0, 0, 0, false), Check.FULL);
        Check.due("test", x.test(0, 79, 0), Check.FULL);
        Check.due("act", x.act(0, 5, 0), Check.FULL);
        Check.due("array", x.array(3, 0), Check.FULL);
        Check.due("tile", x.tile(0, 4, 2), Check.FULL);
        Check.due("sum", x.sum(), Check.FULL);
    }

    private static void badAheadOfSpent() {
        Check.sentence("Terms", "the first of these that fits, in this order: BAD, SPENT");
        LoopLoom x = Recipes.spent();
        bad("visit", x.visit(0, 5, false));
        bad("has", x.has(10, 0, 0, 0, 0));
        bad("points", x.points(10));
        bad("needs", x.needs(5, 5, 3));
        bad("carried", x.carried(4));
        bad("distance", x.distance(10, 5, 0, true));
        bad("free", x.free(10));
        bad("why", x.why(3));
        bad("fetched", x.fetched(17, 1));
        bad("best", x.best(0, 1, 21));
        bad("written", x.written(0, 10));
        LoopLoom y = Recipes.full();
        bad("lean", y.lean(0, 1, 21));
        bad("shift", y.shift(4, 0, 401));
        bad("part", y.part(40));
    }

    private static void badAheadOfFinding() {
        Check.sentence("Terms", "the first of these that fits, in this order: BAD, FINDING");
        LoopLoom x = Recipes.rich();
        int before = x.finding();
        bad("aim", x.aim(0, 3, 0, 0, 0));
        bad("note", x.note(10, -1));
        bad("held", x.held(2, 4));
        bad("noted", x.noted(10, -1, 0));
        bad("copy", x.copy(0, 0, 10, 0, 0));
        bad("array", x.array(4, -1));
        bad("row", x.row(0, 3, 21));
        bad("tear", x.tear(2, 99));
        bad("lay", x.lay(2, 99, 99, 0));
        bad("get", x.get(2, 99, 99));
        bad("needs", x.needs(0, 0, 3));
        bad("distance", x.distance(0, 10, 0, true));
        bad("lean", x.lean(5, 4, 0));
        bad("shift", x.shift(0, 4, 0));
        bad("tile", x.tile(5, 0, 2));
        bad("join", x.join(5, 10));
        bad("order", x.order(0, 0, 7));
        bad("best", x.best(5, 0, 1));
        Check.due("no FINDING was met", x.finding(), before);
    }

    private static void fullAheadOfFinding() {
        Check.sentence("Terms", "the first of these that fits, in this order: FULL, FINDING");
        LoopLoom x = Recipes.full();
        Check.due("array(0, -1)", x.array(0, -1), Check.FULL);
        Check.due("no FINDING", x.findings(Check.SIZE), 0);
    }

    private static void spentAheadOfFinding() {
        Check.sentence("Terms", "the first of these that fits, in this order: SPENT, FINDING");
        LoopLoom x = Recipes.spent();
        int before = x.findings(Check.UNLIKE);
        int[] got = {x.has(0, 0, 0, 0, 0), x.points(0), x.needs(0, 5, 0), x.needs(5, 0, 0), x.distance(0, 5, 0, true),
            x.free(5), x.best(5, 1, 1)};
        for (int g : got) Check.due("SPENT", g, Check.SPENT);
        Check.due("run() of what would be ended", x.run(false), Check.SPENT);
        Check.due("no FINDING", x.findings(Check.UNLIKE), before);
    }

    /** Calls that meet one FINDING each, on an object where none of the others was met. */
    private static void metBy(int finding, Twin.Recipe recipe, Twin.Call... calls) {
        for (int k = 0; k < calls.length; k++) {
            LoopLoom x = recipe.make();
            int[] before = new int[6];
            for (int f = 1; f <= 5; f++) before[f] = x.findings(f);
            Check.due("call " + k, calls[k].on(x), Check.FINDING);
            Check.due("call " + k + ", then finding()", x.finding(), finding);
            for (int f = 1; f <= 5; f++) {
                Check.due("call " + k + ", then findings(" + f + ")", x.findings(f), before[f] + (f == finding ? 1 : 0));
            }
        }
    }

    private static void nothing() {
        Check.sentence("Terms", "1 NOTHING (a row, a note that is missing)");
        metBy(1, Recipes::rich, x -> x.held(2, 0), x -> x.noted(2, 0, 1), x -> x.copy(2, 0, 1, 0, 1),
            x -> x.copy(1, 0, 2, 0, 1), x -> x.lay(0, 1, 0, 1), x -> x.get(0, 1, 0));
        metBy(1, Recipes::torn, x -> x.run(false), x -> x.run(true));
    }

    private static void beyond() {
        Check.sentence("Terms", "2 BEYOND (a place that a row, an ARRAY has not)");
        metBy(2, Recipes::rich, x -> x.row(0, 3, 1), x -> x.tear(0, 3), x -> x.lay(0, 3, 0, 1), x -> x.lay(0, 0, 20, 1),
            x -> x.get(0, -1, 0), x -> x.get(0, 2, 3), x -> x.noted(1, 3, 0), x -> x.copy(1, 0, 1, 0, 4));
    }

    private static void unlike() {
        Check.sentence("Terms", "3 UNLIKE (it is of another sort)");
        metBy(3, Recipes::rich, x -> x.aim(0, 0, 0, 0, 0), x -> x.held(1, 0), x -> x.held(0, 3), x -> x.noted(0, 0, 0),
            x -> x.copy(0, 0, 1, 0, 1), x -> x.has(0, 0, 0, 0, 0), x -> x.points(1), x -> x.needs(2, 5, 0),
            x -> x.distance(5, 3, 0, true), x -> x.free(5), x -> x.swap(2, 1), x -> x.lean(5, 1, 1), x -> x.back(6),
            x -> x.shift(0, 0, 1), x -> x.tile(2, 1, 2), x -> x.part(5), x -> x.join(0, 5), x -> x.order(1, 0, 0),
            x -> x.best(9, 1, 1));
    }

    private static void nought() {
        Check.sentence("Terms", "4 NOUGHT (divided by nothing)");
        Twin.Recipe divider = () -> {
            LoopLoom x = new LoopLoom();
            x.act(Check.NONE, 3, 0);
            return x;
        };
        metBy(4, divider, x -> x.run(false), x -> x.run(true));
    }

    private static void size() {
        Check.sentence("Terms", "5 SIZE (fewer than none)");
        metBy(5, Recipes::rich, x -> x.note(0, -1), x -> x.array(0, -1), x -> x.row(0, 0, -1));
    }

    private static void countTold() {
        Check.sentence("promise 46", "0 SUMS, 1 NODES, 2 ACTS, 3 ARRAYS, 4 TURNS that can be undone. BAD");
        int[] first = {1, 0, 0, 0, 0};
        int[] full = {80, 40, 12, 8, 20};
        LoopLoom x = new LoopLoom();
        LoopLoom y = Recipes.full();
        for (int what = 0; what < 5; what++) {
            Check.due("at first", x.count(what), first[what]);
            Check.due("full", y.count(what), full[what]);
        }
        int[] none = {-1, 5, Check.MIN, Check.MAX};
        for (int what : none) Check.due("count(" + what + ")", x.count(what), Check.BAD);
        y.undo();
        Check.due("19", y.count(4), 19);
    }

    private static void findingLatest() {
        Check.sentence("promise 47", "The latest FINDING");
        LoopLoom x = new LoopLoom();
        x.array(0, 1);
        x.act(Check.NONE, 3, 0);
        Twin.Call[] calls = {y -> y.get(0, 0, 0), y -> y.get(0, 1, 0), y -> y.back(0), y -> y.run(false), y -> y.array(0, -1)};
        for (int round = 0; round < 2; round++) {
            for (int f = 1; f <= 5; f++) {
                calls[f - 1].on(x);
                Check.due("finding()", x.finding(), f);
                x.array(9, 9);
                x.undo();
                x.order(0, 99, 0);
                x.visits();
                Check.due("BAD, STATE, NONE and answers leave it", x.finding(), f);
            }
        }
    }

    private static void findingBefore() {
        Check.sentence("promise 47", "(0 before any)");
        LoopLoom x = new LoopLoom();
        Check.due("finding()", x.finding(), 0);
        x.get(0, 0, 0);
        x.undo();
        x.visit(0, 0, false);
        Check.due("behind BAD, STATE, NONE", x.finding(), 0);
        LoopLoom y = Recipes.full();
        y.sum();
        y.array(0, -1);
        y.shift(4, 0, 1);
        Check.due("behind FULL, SPENT", y.finding(), 0);
    }

    private static void findingsHowOften() {
        Check.sentence("promise 48", "How often a FINDING (1 .. 5) was answered");
        LoopLoom x = new LoopLoom();
        for (int f = 1; f <= 5; f++) Check.due("none", x.findings(f), 0);
        x.array(0, 1);
        for (int k = 0; k < 300; k++) x.get(0, 0, 0);
        Check.due("300", x.findings(1), 300);
        for (int f = 2; f <= 5; f++) Check.due("no other", x.findings(f), 0);
        x.row(0, 0, 1);
        x.get(0, 0, 0);
        Check.due("a call that is done", x.findings(1), 300);
    }

    private static void findingsBad() {
        Check.sentence("promise 48", "BAD");
        LoopLoom x = new LoopLoom();
        int[] none = {0, 6, -1, Check.MIN, Check.MAX};
        for (int f : none) Check.due("findings(" + f + ")", x.findings(f), Check.BAD);
        x.array(0, -1);
        for (int f : none) Check.due("findings(" + f + ")", x.findings(f), Check.BAD);
        Check.due("findings(5)", x.findings(5), 1);
        Check.due("findings(1)", x.findings(1), 0);
    }

    private static long mixed(long... values) {
        long h = 17;
        for (long v : values) h = 31 * h + v;
        return h;
    }

    private static void digestOfNothing() {
        Check.sentence("promise 49", "h = 17; then h = 31 h + v for each v: SIZES");
        LoopLoom x = new LoopLoom();
        Check.due("a new object", x.digest(), 506447);
        x.size(0, 400);
        x.size(1, -400);
        x.size(2, 1);
        Check.due("SIZES", x.digest(), mixed(400, -400, 1));
        x.term(0, 5);
        x.sum();
        Check.due("SUMS are not in it", x.digest(), mixed(400, -400, 1));
    }

    private static void digestInOrder() {
        Check.sentence("promise 49", "of each NODE node() 0 to 4; of each ACT by its number the ROWS of its ORDER (their numbers themselves, WIDTH, LETTER)");
        LoopLoom x = new LoopLoom();
        x.act(Check.NONE, 5, -7);
        x.test(Check.NONE, 0, 1000);
        x.act(1, 0, Check.MAX);
        Check.due("two ACTS and a TEST", x.digest(), mixed(0, 0, 0, 3, -9, 0, 5, -7, 2, -9, 0, 0, 1000,
            3, 1, 0, 0, Check.MAX, 0, 0, 0, 0, 0, 1, -9, 1, 0, 0, 0, 0, 1, -9));
        LoopLoom y = new LoopLoom();
        y.act(y.loop(Check.NONE, 0, 0, true), 4, 0);
        y.back(0);
        y.shift(1, 0, -3);
        y.tile(0, 1, 20);
        Check.due("an ORDER of four ROWS", y.digest(), mixed(0, 0, 0, 1, -9, 0, 0, 0, 3, 0, 1, 4, 0,
            0, 0, 0, 0, 0, 1, -9, -3, -1, 0, 0, 0, 20, -9, -3, -1, 0, 0, 0, 1, 0, 1, 0, 0, 0, 0, 1, -9));
    }

    private static void digestMissing() {
        Check.sentence("promise 49", "of each ARRAY its rows: how many places (-1: missing), and these");
        LoopLoom x = new LoopLoom();
        x.array(0, 0);
        Check.due("no row", x.digest(), mixed(0, 0, 0));
        x.array(0, 2);
        Check.due("two that are missing", x.digest(), mixed(0, 0, 0, -1, -1));
        x.row(1, 1, 0);
        Check.due("one without places", x.digest(), mixed(0, 0, 0, -1, 0));
        x.row(1, 0, 2);
        x.lay(1, 0, 1, 200);
        Check.due("one with two", x.digest(), mixed(0, 0, 0, 2, 0, -56, 0));
        x.array(3, 1);
        x.row(2, 0, 1);
        x.tear(1, 0);
        Check.due("torn", x.digest(), mixed(0, 0, 0, -1, 0, 1, 0));
    }

    private static void digestWraps() {
        Check.sentence("promise 49", "long digest(): longs wrap");
        LoopLoom x = new LoopLoom();
        x.array(3, 1);
        x.row(0, 0, 20);
        long[] want = new long[24];
        want[3] = 20;
        for (int j = 0; j < 20; j++) {
            want[4 + j] = j % 2 == 0 ? Long.MAX_VALUE - j : Long.MIN_VALUE + j;
            x.lay(0, 0, j, want[4 + j]);
        }
        Check.due("20 great places", x.digest(), mixed(want));
        Check.due("it is the same again", x.digest(), mixed(want));
    }
}
