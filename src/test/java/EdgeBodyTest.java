/** Terms 3 and promises 21 to 28: a test for each sentence that names a boundary. */
public final class EdgeBodyTest {
    public static void main(String[] args) {
        pointsOfVisits();
        byLoopsAndTestsAlone();
        fourHundredVisits();
        fourThousandTurns();
        allThatNeedsVisits();
        whatNeedsNone();
        touchedWhereNothingIs();
        onePlace();
        farPlaces();
        twoVisits();
        oneOfWhichIsNought();
        kindsOfNeeds();
        oneOfEachKind();
        firstLetterThatDiffers();
        carriedByNone();
        visitsOfNothing();
        visitBad();
        visitNone();
        hasPoint();
        hasUnlike();
        pointsOfAct();
        needsBad();
        needsOfItself();
        carriedBad();
        distanceLeastAndMost();
        distanceNone();
        distanceLetter();
        freeLoop();
        freeBad();
        Check.end();
    }

    private static void pointsOfVisits() {
        Check.sentence("Terms 3", "an ACT with its POINT: the LETTERS of the LOOPS around it (0 for others)");
        LoopLoom x = new LoopLoom();
        int seven = Check.number(x, 7);
        x.act(Check.NONE, 4, 0);
        int parent = Check.NONE;
        for (int d = 0; d < 4; d++) {
            parent = x.loop(parent, seven, seven, false);
            x.act(parent, 4, 0);
        }
        x.act(Check.NONE, 4, 0);
        Check.same("none, one, .. four LOOPS around, and none behind them", Check.told(x, false, 4),
            "0:0,0,0,0 2:7,0,0,0 4:7,7,0,0 6:7,7,7,0 8:7,7,7,7 9:0,0,0,0");
        x.act(1, 4, 0);
        Check.due("behind the inner LOOPS these LETTERS are 0 again", x.has(10, 7, 0, 0, 0), 1);
    }

    private static void byLoopsAndTestsAlone() {
        Check.sentence("Terms 3", "as the program comes to it, in that order, by SIZES, LOOPS and TESTS alone");
        LoopLoom x = new LoopLoom();
        int two = Check.sum(x, 1, 1);
        x.loop(Check.NONE, 0, two, false);
        x.act(x.test(0, Check.letter(x, 0), 2), 3, 0);
        x.size(0, 2);
        Check.met(x, "a run that is ended at once", 0, x.run(false), Check.NOUGHT);
        Check.due("visits()", x.visits(), 2);
        x.back(0);
        Check.same("TURNS do not change them", Check.told(x, false, 1), "2:0 2:2");
        x.size(0, 4);
        Check.same("SIZES do", Check.told(x, false, 1), "2:0 2:2 2:4");
        x.size(0, -1);
        Check.due("none", x.visits(), 0);
    }

    /** LOOP 0 of 400 turns with ACT 1 and LOOP 2, which has 9 turns at SIZE 0 = 9: 400 VISITS and 4000 turns. */
    private static LoopLoom most() {
        LoopLoom x = new LoopLoom();
        int one = Check.number(x, 1);
        x.size(0, 9);
        x.loop(Check.NONE, one, Check.number(x, 400), false);
        x.act(0, 5, 1);
        x.loop(0, one, Check.sum(x, 1, 1), false);
        x.array(3, 1);
        x.row(0, 0, 1);
        x.aim(1, 0, 0, 0, 0);
        x.aim(1, 1, 0, 0, 0);
        return x;
    }

    private static void fourHundredVisits() {
        Check.sentence("Terms 3", "With more than 400 VISITS");
        LoopLoom x = most();
        Check.due("400 VISITS", x.visits(), 400);
        x.act(Check.NONE, 4, 0);
        Check.due("401", x.visits(), Check.SPENT);
        LoopLoom y = new LoopLoom();
        y.loop(Check.NONE, 0, Check.sum(y, 1, 1), false);
        for (int a = 0; a < 11; a++) y.act(0, 4, 0);
        y.act(y.test(0, Check.sum(y, 4, 1, 0, -32), 0), 4, 0);
        y.size(0, 35);
        Check.due("36 times 11, and 4", y.visits(), 400);
        y.size(0, 36);
        Check.due("37 times 11, and 5", y.visits(), Check.SPENT);
        y.size(0, 35);
        Check.due("as before", y.visits(), 400);
    }

    private static void fourThousandTurns() {
        Check.sentence("Terms 3", "or 4000 turns of LOOPS");
        LoopLoom x = most();
        Check.due("400 and 400 times 9 turns", x.visits(), 400);
        x.loop(Check.NONE, 0, 0, false);
        Check.due("one turn more", x.visits(), Check.SPENT);
        x.size(0, 8);
        Check.due("400 fewer", x.visits(), 400);
        LoopLoom y = new LoopLoom();
        y.loop(Check.NONE, Check.sum(y, 0, 1, 1, -1000), Check.sum(y, 2, 1000), false);
        y.size(0, 2);
        y.size(1, 2);
        Check.due("-1999 .. 2000, no VISIT", y.visits(), 0);
        y.loop(Check.NONE, 0, Check.number(y, -1), false);
        Check.due("a LOOP without a turn", y.visits(), 0);
        y.loop(y.test(Check.NONE, Check.number(y, -1), 0), 0, 0, false);
        Check.due("a LOOP in a TEST that is not done", y.visits(), 0);
        y.loop(y.test(Check.NONE, 0, 0), 0, 0, true);
        Check.due("a SIDE in one that is", y.visits(), Check.SPENT);
    }

    private static final Twin.Call[] NEED_VISITS = {x -> x.visits(), x -> x.visit(0, 0, false), x -> x.visit(0, 1, true),
        x -> x.has(1, 0, 0, 0, 0), x -> x.points(1), x -> x.needs(1, 1, 0), x -> x.carried(0), x -> x.carried(Check.NONE),
        x -> x.distance(1, 1, 0, true), x -> x.free(0), x -> x.allowed(), x -> x.why(0), x -> x.run(false),
        x -> x.run(true), x -> x.fetched(1, 1), x -> x.best(0, 1, 1), x -> x.lines(), x -> x.written(0, 0)};

    private static void allThatNeedsVisits() {
        Check.sentence("Terms 3", "all that needs VISITS is SPENT");
        LoopLoom x = most();
        for (int k = 0; k < NEED_VISITS.length; k++) {
            Check.due("call " + k + " with 400 VISITS and 4000 turns is SPENT", NEED_VISITS[k].on(x) == Check.SPENT ? 1 : 0, 0);
        }
        x.loop(Check.NONE, 0, 0, false);
        for (int k = 0; k < NEED_VISITS.length; k++) Check.due("call " + k + ", 4001 turns", NEED_VISITS[k].on(x), Check.SPENT);
        x.size(0, 1);
        x.act(Check.NONE, 4, 0);
        for (int k = 0; k < NEED_VISITS.length; k++) Check.due("call " + k + ", 401 VISITS", NEED_VISITS[k].on(x), Check.SPENT);
        Check.due("no FINDING", x.finding(), 0);
    }

    private static void whatNeedsNone() {
        Check.sentence("Terms 3", "all that needs VISITS is SPENT: what needs none is not");
        LoopLoom x = most();
        x.run(false);
        x.act(Check.NONE, 4, 0);
        Twin.Call[] calls = {y -> y.swap(0, 1), y -> y.lean(0, 1, 1), y -> y.back(0), y -> y.shift(1, 0, 1),
            y -> y.tile(0, 1, 2), y -> y.part(0)};
        for (Twin.Call call : calls) Check.due("a TURN", call.on(x), 1);
        Check.due("undo()", x.undo(), 5);
        Check.due("order(1, 0, 5)", x.order(1, 0, 5), 1);
        Check.due("ended(0)", x.ended(0), 400);
        Check.due("get(0, 0, 0)", Check.at(x, 0, 0, 0), 400);
        Check.due("aim", x.aim(1, 2, 0, 0, 0), 1);
        Check.due("join(0, 2) that do not stand in the same", x.join(0, 2), Check.BAD);
    }

    /** LOOP 0 over 0 .. 2 with ACT 1, and an ARRAY without rows. */
    private static LoopLoom three() {
        LoopLoom x = new LoopLoom();
        x.loop(Check.NONE, 0, Check.number(x, 2), false);
        x.act(0, 1, 0);
        x.array(0, 0);
        return x;
    }

    private static void touchedWhereNothingIs() {
        Check.sentence("Terms 3", "TOUCHES .. a place .. (whether there is such a place or not)");
        LoopLoom x = three();
        int far = Check.number(x, -1000);
        x.aim(1, 0, 0, far, far);
        Check.due("needs(1, 1, 2)", x.needs(1, 1, 2), 3);
        Check.due("fetched(1, 1)", x.fetched(1, 1), 1);
        x.back(0);
        Check.due("allowed()", x.allowed(), 0);
    }

    private static void onePlace() {
        Check.sentence("Terms 3", "that TOUCH one place: the ARRAY, the two SUMS");
        LoopLoom x = three();
        int one = Check.number(x, 1);
        x.array(0, 0);
        int[][] aims = {{0, 0, 0, 3}, {1, 0, 0, 0}, {0, one, 0, 0}, {0, 0, one, 0}, {0, 0, 0, 3}};
        x.aim(1, 0, 0, 0, 0);
        for (int[] a : aims) {
            x.aim(1, 1, a[0], a[1], a[2]);
            Check.due("needs(1, 1, 0)", x.needs(1, 1, 0), a[3]);
            Check.due("needs(1, 1, 1)", x.needs(1, 1, 1), a[3]);
        }
    }

    /** 2 ** 35 and 0 are alike in their lowest 32 bits. */
    private static void farPlaces() {
        Check.sentence("Terms 3", "that TOUCH one place (Sums are reckoned as longs)");
        LoopLoom x = new LoopLoom();
        x.size(0, 256);
        int first = Check.sum(x, 1, 512);
        int second = Check.sum(x, 4, 512);
        int outer = x.loop(Check.NONE, first, first, false);
        int inner = x.loop(outer, second, second, false);
        x.act(inner, 4, 0);
        x.act(inner, 0, 0);
        x.array(0, 0);
        int far = Check.sum(x, 5, 512);
        x.aim(2, 0, 0, far, 0);
        x.aim(3, 1, 0, 0, 0);
        Check.due("rows that are 2 ** 35 apart", x.needs(2, 3, 0), 0);
        x.aim(2, 0, 0, 0, far);
        Check.due("places that are 2 ** 35 apart", x.needs(2, 3, 0), 0);
        x.aim(3, 1, 0, 0, far);
        Check.due("the same far place", x.needs(2, 3, 0), 1);
    }

    private static void twoVisits() {
        Check.sentence("Terms 3", "A NEED: two VISITS, v ahead of w");
        LoopLoom x = new LoopLoom();
        x.act(Check.NONE, 1, 0);
        x.array(0, 0);
        for (int which = 0; which < 3; which++) x.aim(0, which, 0, 0, 0);
        for (int kind = 0; kind < 3; kind++) Check.due("one VISIT has none with itself", x.needs(0, 0, kind), 0);
        Check.due("carried(NONE)", x.carried(Check.NONE), 0);
        x.act(Check.NONE, 1, 0);
        x.aim(1, 1, 0, 0, 0);
        Check.due("written, then read", x.needs(0, 1, 0), 1);
        Check.due("not the other way", x.needs(1, 0, 1) + x.needs(1, 0, 0), 0);
    }

    private static void oneOfWhichIsNought() {
        Check.sentence("Terms 3", "by two AIMS one of which is 0");
        LoopLoom x = three();
        x.aim(1, 1, 0, 0, 0);
        x.aim(1, 2, 0, 0, 0);
        for (int kind = 0; kind < 3; kind++) Check.due("reads alone", x.needs(1, 1, kind), 0);
        Check.due("carried(0)", x.carried(0), 0);
        Check.due("free(0)", x.free(0), 1);
        Check.due("without an AIM", three().carried(0), 0);
    }

    private static void kindsOfNeeds() {
        Check.sentence("Terms 3", "Its kind: 0 (v by AIM 0, w by 1 or 2), 1 (v by 1 or 2, w by 0), 2 (both by 0)");
        for (int which = 1; which <= 2; which++) {
            LoopLoom x = new LoopLoom();
            x.array(0, 0);
            x.act(Check.NONE, 0, 0);
            x.act(Check.NONE, 0, 0);
            x.act(Check.NONE, 0, 0);
            x.aim(0, 0, 0, 0, 0);
            x.aim(1, which, 0, 0, 0);
            x.aim(2, 0, 0, 0, 0);
            int[][] want = {{0, 1, 1, 0, 0}, {1, 2, 0, 1, 0}, {0, 2, 0, 0, 1}};
            for (int[] w : want) {
                for (int kind = 0; kind < 3; kind++) {
                    Check.due("needs(" + w[0] + ", " + w[1] + ", " + kind + ")", x.needs(w[0], w[1], kind), w[2 + kind]);
                }
            }
        }
    }

    private static void oneOfEachKind() {
        Check.sentence("Terms 3", "two VISITS are one NEED of each kind at most");
        LoopLoom x = three();
        for (int which = 0; which < 3; which++) x.aim(1, which, 0, 0, 0);
        for (int kind = 0; kind < 3; kind++) Check.due("kind " + kind + " of 3 pairs", x.needs(1, 1, kind), 3);
        Check.due("carried(0)", x.carried(0), 9);
    }

    /** Four LOOPS over 0 .. 1 with an ACT that writes one place: pairs that first differ at LETTER 0, 1, 2, 3. */
    private static void firstLetterThatDiffers() {
        Check.sentence("Terms 3", "CARRIED by DEPTH d, if the first of the LOOPS around both ACTS at whose LETTER the POINTS differ is that with LETTER d");
        LoopLoom x = new LoopLoom();
        int one = Check.number(x, 1);
        int parent = Check.NONE;
        for (int d = 0; d < 4; d++) parent = x.loop(parent, 0, one, false);
        x.act(parent, 4, 0);
        x.array(0, 0);
        x.aim(4, 0, 0, 0, 0);
        int[] want = {64, 32, 16, 8};
        for (int d = 0; d < 4; d++) {
            Check.due("carried(" + d + ")", x.carried(d), want[d]);
            Check.due("free(" + d + ")", x.free(d), 0);
        }
        Check.due("carried(NONE)", x.carried(Check.NONE), 0);
    }

    private static void carriedByNone() {
        Check.sentence("Terms 3", "by NONE, if there is none such");
        LoopLoom x = new LoopLoom();
        int one = Check.number(x, 1);
        x.array(0, 0);
        x.loop(Check.NONE, 0, one, false);
        x.loop(0, 0, one, false);
        x.loop(0, 0, one, false);
        x.act(1, 4, 0);
        x.act(2, 4, 0);
        x.aim(3, 0, 0, Check.letter(x, 0), 0);
        x.aim(4, 0, 0, Check.letter(x, 0), 0);
        Check.due("LETTERS of LOOPS around one alone do not count", x.carried(Check.NONE), 8);
        Check.due("those of the same inner LOOP do", x.carried(1), 4);
        Check.due("carried(0)", x.carried(0), 0);
        Check.due("free(0)", x.free(0), 1);
        LoopLoom y = new LoopLoom();
        y.array(0, 0);
        y.aim(y.act(Check.NONE, 4, 0), 0, 0, 0, 0);
        y.aim(y.act(Check.NONE, 4, 0), 0, 0, 0, 0);
        Check.due("no LOOP at all", y.carried(Check.NONE), 1);
    }

    private static void visitsOfNothing() {
        Check.sentence("promise 21", "How many VISITS the program has. SPENT");
        LoopLoom x = new LoopLoom();
        Check.due("no NODE", x.visits(), 0);
        x.loop(Check.NONE, 0, 0, false);
        x.test(0, 0, 0);
        Check.due("no ACT", x.visits(), 0);
        x.act(1, 4, 0);
        Check.due("one", x.visits(), 1);
        LoopLoom y = most();
        Check.due("400", y.visits(), 400);
        y.act(0, 4, 0);
        Check.due("800", y.visits(), Check.SPENT);
    }

    private static void visitBad() {
        Check.sentence("promise 22", "0 its ACT, 1 to 4 its POINT (as 100000 and more). BAD: what; SPENT");
        LoopLoom x = new LoopLoom();
        int low = Check.number(x, -1000);
        x.act(x.loop(Check.NONE, low, low, false), 4, 0);
        Check.due("its ACT", x.visit(0, 0, false), 1);
        Check.due("a LETTER below 0", x.visit(0, 1, false), 99000);
        Check.due("one that it has not", x.visit(0, 4, true), 100000);
        int[] none = {-1, 5, Check.MIN, Check.MAX};
        for (int what : none) {
            Check.due("visit(0, " + what + ", false)", x.visit(0, what, false), Check.BAD);
            Check.due("visit(9, " + what + ", true), BAD ahead of NONE", x.visit(9, what, true), Check.BAD);
        }
        x.act(x.loop(Check.NONE, low, 0, false), 4, 0);
        Check.due("SPENT ahead of NONE", x.visit(-1, 0, false), Check.SPENT);
        Check.due("BAD ahead of SPENT", x.visit(0, 5, false), Check.BAD);
    }

    private static void visitNone() {
        Check.sentence("promise 22", "NONE: none such");
        LoopLoom x = three();
        int[] none = {3, -1, 400, Check.MIN, Check.MAX};
        for (int i : none) {
            Check.due("visit(" + i + ", 0, false)", x.visit(i, 0, false), Check.NONE);
            Check.due("visit(" + i + ", 1, true)", x.visit(i, 1, true), Check.NONE);
        }
        Check.due("the last one", x.visit(2, 1, false), 100002);
        Check.due("the first one", x.visit(0, 1, true), 100000);
        Check.due("of none", new LoopLoom().visit(0, 0, false), Check.NONE);
        LoopLoom y = most();
        Check.due("VISIT 399", y.visit(399, 1, false), 100400);
        Check.due("VISIT 400", y.visit(400, 1, false), Check.NONE);
    }

    private static void hasPoint() {
        Check.sentence("promise 23", "Whether a POINT is in an ACT's BODY (it has a VISIT there): 1, 0");
        LoopLoom x = new LoopLoom();
        int low = Check.number(x, -2);
        int last = Check.number(x, 2);
        int outer = x.loop(Check.NONE, low, last, false);
        x.act(x.loop(outer, low, Check.letter(x, 0), false), 4, 0);
        for (int i = -3; i <= 3; i++) {
            for (int j = -3; j <= 3; j++) {
                boolean is = i >= -2 && i <= 2 && j >= -2 && j <= i;
                Check.due("has(2, " + i + ", " + j + ", 0, 0)", x.has(2, i, j, 0, 0), is ? 1 : 0);
            }
        }
        Check.due("LETTER 2 is 0 there", x.has(2, 0, 0, 1, 0), 0);
        Check.due("LETTER 3 is 0 there", x.has(2, 0, 0, 0, 1), 0);
        Check.due("far away", x.has(2, Check.MIN, Check.MAX, Check.MIN, Check.MAX), 0);
        LoopLoom y = new LoopLoom();
        int[] numbers = {7, -3, 11, 2};
        int parent = Check.NONE;
        for (int v : numbers) parent = y.loop(parent, Check.number(y, v), Check.number(y, v), false);
        y.act(parent, 4, 0);
        Check.due("four LETTERS", y.has(4, 7, -3, 11, 2), 1);
        for (int d = 0; d < 4; d++) {
            int[] p = numbers.clone();
            p[d] = numbers[(d + 1) % 4];
            Check.due("LETTER " + d + " as another one", y.has(4, p[0], p[1], p[2], p[3]), 0);
        }
    }

    private static void hasUnlike() {
        Check.sentence("promise 23", "BAD: the NODE; SPENT; UNLIKE: no ACT");
        LoopLoom x = three();
        x.test(0, 0, 0);
        int[] none = {3, -1, Check.NONE, Check.MAX};
        for (int n : none) Check.due("has(" + n + ", ..)", x.has(n, 0, 0, 0, 0), Check.BAD);
        Check.met(x, "a LOOP", 0, x.has(0, 0, 0, 0, 0), Check.UNLIKE);
        Check.met(x, "a TEST", 1, x.has(2, 0, 0, 0, 0), Check.UNLIKE);
        LoopLoom y = most();
        y.act(0, 4, 0);
        Check.due("BAD ahead of SPENT", y.has(4, 0, 0, 0, 0), Check.BAD);
        Check.due("SPENT ahead of UNLIKE", y.has(0, 0, 0, 0, 0), Check.SPENT);
    }

    private static void pointsOfAct() {
        Check.sentence("promise 24", "How many POINTS an ACT's BODY has. BAD; SPENT; UNLIKE");
        LoopLoom x = three();
        x.act(x.test(0, Check.number(x, -1), 0), 4, 0);
        Check.due("3", x.points(1), 3);
        Check.due("none", x.points(3), 0);
        int[] none = {4, -1, Check.MIN};
        for (int n : none) Check.due("points(" + n + ")", x.points(n), Check.BAD);
        Check.met(x, "a LOOP", 0, x.points(0), Check.UNLIKE);
        Check.met(x, "a TEST", 1, x.points(2), Check.UNLIKE);
        LoopLoom y = most();
        Check.due("400", y.points(1), 400);
        y.act(0, 4, 0);
        Check.due("BAD ahead of SPENT", y.points(4), Check.BAD);
        Check.due("SPENT ahead of UNLIKE", y.points(0), Check.SPENT);
    }

    private static void needsBad() {
        Check.sentence("promise 25", "NEEDS of a kind (0 .. 2) .. BAD; SPENT; UNLIKE: either");
        LoopLoom x = three();
        int[][] bad = {{1, 1, 3}, {1, 1, -1}, {2, 1, 0}, {1, 2, 0}, {-1, 1, 0}, {1, -1, 0}, {0, 0, 3}, {0, 2, 0}};
        for (int[] b : bad) Check.due("needs(" + b[0] + ", " + b[1] + ", " + b[2] + ")", x.needs(b[0], b[1], b[2]), Check.BAD);
        Check.met(x, "the first", 0, x.needs(0, 1, 0), Check.UNLIKE);
        Check.met(x, "the second", 1, x.needs(1, 0, 2), Check.UNLIKE);
        Check.met(x, "both", 2, x.needs(0, 0, 1), Check.UNLIKE);
        LoopLoom y = most();
        y.act(0, 4, 0);
        Check.due("BAD ahead of SPENT", y.needs(1, 1, 3), Check.BAD);
        Check.due("SPENT ahead of UNLIKE", y.needs(0, 1, 0), Check.SPENT);
    }

    private static void needsOfItself() {
        Check.sentence("promise 25", "to those of an ACT (perhaps itself)");
        LoopLoom x = three();
        x.aim(1, 0, 0, 0, 0);
        Check.due("needs(1, 1, 2)", x.needs(1, 1, 2), 3);
        Check.due("needs(1, 1, 0)", x.needs(1, 1, 0), 0);
        LoopLoom y = most();
        for (int kind = 0; kind < 3; kind++) Check.due("of 400 VISITS", y.needs(1, 1, kind), 400 * 399 / 2);
    }

    private static void carriedBad() {
        Check.sentence("promise 26", "CARRIED by a DEPTH (0 .. 3; NONE). BAD; SPENT");
        LoopLoom x = three();
        for (int depth = 0; depth < 4; depth++) Check.due("carried(" + depth + ")", x.carried(depth), 0);
        Check.due("carried(NONE)", x.carried(Check.NONE), 0);
        int[] none = {4, -1, -8, -10, Check.MIN, Check.MAX};
        for (int depth : none) Check.due("carried(" + depth + ")", x.carried(depth), Check.BAD);
        LoopLoom y = most();
        Check.due("of 400 VISITS", y.carried(0), 3 * 400 * 399 / 2);
        y.act(0, 4, 0);
        Check.due("SPENT", y.carried(Check.NONE), Check.SPENT);
        Check.due("BAD ahead of SPENT", y.carried(4), Check.BAD);
    }

    private static void distanceLeastAndMost() {
        Check.sentence("promise 27", "The least (most: the greatest) that LETTER d of the second POINT is more than that of the first one");
        LoopLoom x = new LoopLoom();
        int two = Check.number(x, 2);
        int outer = x.loop(Check.NONE, 0, two, false);
        x.act(x.loop(outer, 0, two, false), 4, 0);
        x.array(0, 0);
        x.aim(2, 0, 0, 0, 0);
        Check.asked(x, "least of 0", x.distance(2, 2, 0, false), 0);
        Check.asked(x, "most of 0", x.distance(2, 2, 0, true), 2);
        Check.asked(x, "least of 1", x.distance(2, 2, 1, false), -2);
        Check.asked(x, "most of 1", x.distance(2, 2, 1, true), 2);
        x.aim(2, 0, 0, 0, Check.sum(x, 4, 1, 5, 1));
        Check.asked(x, "all below 0: least", x.distance(2, 2, 1, false), -2);
        Check.asked(x, "all below 0: most", x.distance(2, 2, 1, true), -1);
        x.aim(2, 0, 0, Check.letter(x, 0), 0);
        Check.asked(x, "all above 0: least", x.distance(2, 2, 1, false), 1);
        Check.asked(x, "0 alone: most", x.distance(2, 2, 0, true), 0);
        LoopLoom y = three();
        int lone = y.act(y.test(0, Check.letter(y, 0), 2), 4, 0);
        y.aim(lone, 0, 0, 0, 0);
        Check.due("one NEED", y.needs(lone, lone, 2), 1);
        Check.asked(y, "one NEED: least", y.distance(lone, lone, 0, false), 2);
        Check.asked(y, "one NEED: most", y.distance(lone, lone, 0, true), 2);
        Check.due("free(0)", y.free(0), 0);
    }

    private static void distanceNone() {
        Check.sentence("promise 27", "NONE: there is none");
        LoopLoom x = three();
        Check.due("no AIM", x.distance(1, 1, 0, true), Check.NONE);
        x.aim(1, 0, 0, 0, Check.letter(x, 0));
        Check.due("no place twice", x.distance(1, 1, 0, false), Check.NONE);
        Check.due("asked()", x.asked(), 0);
        Check.due("no FINDING", x.finding(), 0);
        Check.due("BAD ahead of NONE", x.distance(1, 1, 1, false), Check.BAD);
    }

    private static void distanceLetter() {
        Check.sentence("promise 27", "BAD: also a LETTER that is not of a LOOP around both; SPENT; UNLIKE (ahead of that LETTER: BAD behind it)");
        LoopLoom x = new LoopLoom();
        x.loop(Check.NONE, 0, 0, false);
        x.loop(0, 0, 0, false);
        x.loop(0, 0, 0, false);
        x.act(1, 4, 0);
        x.act(2, 4, 0);
        x.act(Check.NONE, 4, 0);
        int[][] bad = {{3, 4, 1}, {3, 4, 3}, {3, 3, 2}, {3, 5, 0}, {5, 5, 0}, {3, 3, 4}, {3, 3, -1}, {6, 3, 0}, {3, -1, 0}};
        for (int[] b : bad) Check.due("distance(" + b[0] + ", " + b[1] + ", " + b[2] + ")", x.distance(b[0], b[1], b[2], true), Check.BAD);
        Check.due("LETTER 0 is around both", x.distance(3, 4, 0, true), Check.NONE);
        Check.due("LETTER 1 is around both", x.distance(3, 3, 1, true), Check.NONE);
        Check.met(x, "UNLIKE ahead of the LETTER", 0, x.distance(0, 3, 3, true), Check.UNLIKE);
        Check.met(x, "UNLIKE ahead of the LETTER", 1, x.distance(3, 2, 3, true), Check.UNLIKE);
        Check.due("no NODE ahead of UNLIKE", x.distance(0, 6, 0, true), Check.BAD);
        // 4 is no LETTER at all, so it is a number that is none.
        Check.due("no LETTER ahead of UNLIKE", x.distance(0, 3, 4, true), Check.BAD);
        Check.due("no LETTER ahead of UNLIKE", x.distance(3, 2, -1, true), Check.BAD);
        LoopLoom y = most();
        y.act(0, 4, 0);
        Check.due("SPENT ahead of UNLIKE", y.distance(0, 1, 0, true), Check.SPENT);
        Check.due("SPENT ahead of that LETTER", y.distance(1, 1, 3, true), Check.SPENT);
        Check.due("no NODE ahead of SPENT", y.distance(1, 4, 0, true), Check.BAD);
        Check.due("no LETTER ahead of SPENT", y.distance(1, 1, 4, true), Check.BAD);
        Check.due("no LETTER ahead of SPENT", y.distance(1, 1, -1, true), Check.BAD);
    }

    private static void freeLoop() {
        Check.sentence("promise 28", "Whether no NEED between VISITS of ACTS in a LOOP is CARRIED by its LETTER: 1, 0");
        LoopLoom x = new LoopLoom();
        int one = Check.number(x, 1);
        x.array(0, 0);
        x.loop(Check.NONE, 0, one, false);
        x.loop(Check.NONE, 0, one, true);
        Check.due("no ACT", x.free(0), 1);
        x.act(0, 4, 0);
        x.act(1, 4, 0);
        x.aim(2, 0, 0, 0, 0);
        x.aim(3, 0, 0, 0, Check.sum(x, 4, 1, 0, 1));
        Check.due("a NEED of LOOP 0", x.free(0), 0);
        Check.due("none of SIDE 1, though its LETTER is the same", x.free(1), 1);
        x.aim(3, 0, 0, 0, 0);
        Check.due("now one", x.free(1), 0);
        x.aim(2, 0, 0, 0, Check.letter(x, 0));
        Check.due("none", x.free(0), 1);
    }

    private static void freeBad() {
        Check.sentence("promise 28", "BAD; SPENT; UNLIKE: no LOOP");
        LoopLoom x = three();
        x.test(0, 0, 0);
        int[] none = {3, -1, Check.NONE, Check.MAX};
        for (int n : none) Check.due("free(" + n + ")", x.free(n), Check.BAD);
        Check.met(x, "an ACT", 0, x.free(1), Check.UNLIKE);
        Check.met(x, "a TEST", 1, x.free(2), Check.UNLIKE);
        LoopLoom y = most();
        y.act(0, 4, 0);
        Check.due("BAD ahead of SPENT", y.free(4), Check.BAD);
        Check.due("SPENT ahead of UNLIKE", y.free(1), Check.SPENT);
    }
}
