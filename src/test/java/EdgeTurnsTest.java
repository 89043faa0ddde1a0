/** Terms 4, of TURNS that are kept, and promises 36 to 39: a test for each sentence that names a boundary. */
public final class EdgeTurnsTest {
    public static void main(String[] args) {
        twentyAreKept();
        eachTurnIsKept();
        undoState();
        undoHowMany();
        orderOfRows();
        orderNone();
        allowedOrNot();
        whyFirst();
        whyByFirstVisit();
        whyByKind();
        whyByAims();
        whyNone();
        whyBad();
        Check.end();
    }

    /** LOOP 0 { LOOP 1 { ACT 2 } } LOOP 3 { ACT 4 }, all over 0 .. 2; ARRAY 0 without rows. */
    private static LoopLoom two() {
        LoopLoom x = new LoopLoom();
        int last = Check.number(x, 2);
        x.loop(Check.NONE, 0, last, false);
        x.loop(0, 0, last, false);
        x.act(1, 4, 0);
        x.loop(Check.NONE, 0, last, false);
        x.act(3, 4, 0);
        x.array(0, 0);
        return x;
    }

    private static void twentyAreKept() {
        Check.sentence("Terms 4", "TURNS (20 are kept for undo())");
        for (int turns = 19; turns <= 22; turns++) {
            LoopLoom x = two();
            for (int k = 1; k <= turns; k++) {
                x.shift(2, 0, 1);
                Check.due("count(4)", x.count(4), Math.min(k, 20));
            }
            int kept = Math.min(turns, 20);
            for (int k = 1; k <= kept; k++) {
                Check.due("undo()", x.undo(), kept - k);
                Check.due("the number", x.order(2, 1, 0), 1000000 + turns - k);
            }
            Check.due("no more", x.undo(), Check.STATE);
            Check.due("what was not kept stays", x.order(2, 1, 0), 1000000 + turns - kept);
            Check.due("a new TURN", x.back(0), 1);
            Check.due("undo()", x.undo(), 0);
        }
        LoopLoom y = two();
        for (int k = 0; k < 45; k++) y.shift(2, 0, 1);
        for (int k = 0; k < 7; k++) y.undo();
        for (int k = 0; k < 10; k++) y.shift(2, 0, 100);
        for (int left = 19; left >= 0; left--) Check.due("undo()", y.undo(), left);
        Check.due("38 and 10 TURNS, of which 20 are undone", y.order(2, 1, 0), 1000028);
    }

    private static void eachTurnIsKept() {
        Check.sentence("promise 36", "ORDERS are as they were ahead of the latest TURN");
        Twin.Call[] turns = {x -> x.swap(0, 1), x -> x.lean(1, 0, 3), x -> x.back(0), x -> x.shift(4, 0, 9),
            x -> x.tile(0, 2, 4), x -> x.part(0), x -> x.join(0, 3), x -> x.swap(1, 3), x -> x.lean(0, 1, 0)};
        LoopLoom x = two();
        long[] before = new long[turns.length];
        for (int k = 0; k < turns.length; k++) {
            before[k] = x.digest();
            Check.due("TURN " + k, turns[k].on(x), 1);
        }
        for (int k = turns.length - 1; k >= 0; k--) {
            Check.due("undo() of TURN " + k, x.undo(), k);
            Check.due("digest()", x.digest(), before[k]);
        }
        Check.same("THE NEW ORDER, too", Check.told(x, true, 2), Check.told(x, false, 2));
        Check.due("join(0, 3)", x.join(0, 3), 1);
        Check.due("best(0, 1, 1) by which nothing is made", x.best(0, 1, 1), 0);
        Check.due("undo() of join", x.undo(), 0);
        Check.due("digest()", x.digest(), before[0]);
    }

    private static void undoState() {
        Check.sentence("promise 36", "STATE: none is kept");
        LoopLoom x = new LoopLoom();
        Check.due("a new object", x.undo(), Check.STATE);
        LoopLoom y = two();
        Check.due("no TURN", y.undo(), Check.STATE);
        y.back(4);
        y.swap(0, 0);
        Check.due("refused ones", y.undo(), Check.STATE);
        y.back(0);
        Check.due("one", y.undo(), 0);
        Check.due("none again", y.undo(), Check.STATE);
        Check.due("STATE is no FINDING", y.findings(Check.UNLIKE), 1);
        y.back(0);
        y.test(Check.NONE, 0, 0);
        Check.due("ORDERS are as at first behind test()", y.undo(), Check.STATE);
    }

    private static void undoHowMany() {
        Check.sentence("promise 36", "how many can be undone then");
        LoopLoom x = two();
        for (int k = 0; k < 3; k++) x.back(0);
        Check.due("undo()", x.undo(), 2);
        Check.due("count(4)", x.count(4), 2);
        Check.due("size() leaves them", x.size(0, 5), 0);
        Check.due("undo()", x.undo(), 1);
        x.aim(2, 0, 0, 0, 0);
        x.run(true);
        Check.due("undo()", x.undo(), 0);
    }

    private static void orderOfRows() {
        Check.sentence("promise 37", "0 its number, 1 to 4 LETTERS' numbers, 5 its WIDTH, 6 the LETTER whose LOOP ROW it is (NONE) (0 to 4 as 1000000 and more). BAD; UNLIKE");
        LoopLoom x = two();
        x.shift(2, 1, -400);
        x.lean(1, 0, -20);
        int[] want = {999600, 999980, 1000001, 1000000, 1000000, 1, 1};
        for (int what = 0; what < 7; what++) Check.due("order(2, 3, " + what + ")", x.order(2, 3, what), want[what]);
        Check.due("no LOOP ROW", x.order(2, 2, 6), Check.NONE);
        int[][] bad = {{2, 0, 7}, {2, 0, -1}, {5, 0, 0}, {-1, 0, 0}, {0, 0, 7}, {2, 99, 7}, {Check.MAX, 0, 0}};
        for (int[] b : bad) Check.due("order(" + b[0] + ", " + b[1] + ", " + b[2] + ")", x.order(b[0], b[1], b[2]), Check.BAD);
        Check.due("no FINDING", x.finding(), 0);
        Check.met(x, "a LOOP", 0, x.order(0, 0, 0), Check.UNLIKE);
        Check.met(x, "a TEST", 1, x.order(x.test(0, 0, 0), 0, 6), Check.UNLIKE);
    }

    private static void orderNone() {
        Check.sentence("promise 37", "NONE: none such (behind these)");
        LoopLoom x = two();
        int[] none = {5, -1, 15, 16, 17, Check.MIN, Check.MAX};
        for (int i : none) Check.due("order(2, " + i + ", 0)", x.order(2, i, 0), Check.NONE);
        Check.due("the last ROW", x.order(2, 4, 0), 1000002);
        Check.due("ROW 3 of ACT 4", x.order(4, 3, 5), Check.NONE);
        Check.met(x, "UNLIKE ahead of NONE", 0, x.order(0, 99, 0), Check.UNLIKE);
        x.tile(0, 1, 2);
        Check.due("ROW 5 is one now", x.order(2, 5, 0), 1000002);
        x.undo();
        Check.due("and none again", x.order(2, 5, 0), Check.NONE);
    }

    private static void allowedOrNot() {
        Check.sentence("promise 38", "Whether THE NEW ORDER is ALLOWED: 1, 0. SPENT");
        Check.due("nothing", new LoopLoom().allowed(), 1);
        LoopLoom x = two();
        x.aim(4, 0, 0, 0, 0);
        Check.due("at first", x.allowed(), 1);
        x.back(0);
        Check.due("another LOOP", x.allowed(), 1);
        x.back(3);
        Check.due("its own", x.allowed(), 0);
        x.back(3);
        Check.due("there and back", x.allowed(), 1);
        x.act(x.loop(Check.NONE, 0, Check.number(x, 400), false), 4, 0);
        Check.due("SPENT", x.allowed(), Check.SPENT);
    }

    /** A LOOP over 0 .. 3 from behind, with an ACT whose AIMS are told: AIM, LETTER times, number. */
    private static LoopLoom backwards(int[]... aims) {
        LoopLoom x = new LoopLoom();
        x.array(0, 0);
        x.act(x.loop(Check.NONE, 0, Check.number(x, 3), false), 1, 0);
        for (int[] a : aims) x.aim(1, a[0], 0, 0, Check.sum(x, 4, a[1], 0, a[2]));
        x.back(0);
        return x;
    }

    private static void why(LoopLoom x, int first, int second, int kind) {
        Check.due("why(0)", x.why(0), first);
        Check.due("why(1)", x.why(1), second);
        Check.due("why(2)", x.why(2), kind);
    }

    private static void whyFirst() {
        Check.sentence("promise 39", "Of the first NEED (by its second VISIT in the program");
        // Reads place 2: NEEDS 0-2 and 1-2 of kind 1, 2-3 of kind 0.
        why(backwards(new int[] {0, 1, 0}, new int[] {1, 0, 2}), 0, 2, 1);
        // VISIT i writes i and reads 3 - i: 1-2 of kinds 0 and 1 is ahead of 0-3.
        why(backwards(new int[] {0, 1, 0}, new int[] {1, -1, 3}), 1, 2, 0);
    }

    private static void whyByFirstVisit() {
        Check.sentence("promise 39", "then by its first one");
        // All write one place: 0-1 is the first.
        why(backwards(new int[] {0, 0, 0}), 0, 1, 2);
        // i writes i, reads 3: the second VISIT is 3, the first ones 0, 1, 2.
        why(backwards(new int[] {0, 1, 0}, new int[] {2, 0, 3}), 0, 3, 1);
        // ACT 0 stays ahead of all: its NEEDS are no reason.
        LoopLoom x = new LoopLoom();
        x.array(0, 0);
        x.aim(x.act(Check.NONE, 4, 0), 0, 0, 0, 0);
        x.aim(x.act(x.loop(Check.NONE, 0, Check.number(x, 2), false), 4, 0), 0, 0, 0, 0);
        x.back(1);
        why(x, 1, 2, 2);
    }

    private static void whyByKind() {
        Check.sentence("promise 39", "then by kind)");
        int[][] all = {{0, 0, 0}, {1, 0, 0}, {2, 0, 0}};
        why(backwards(all), 0, 1, 0);
        why(backwards(all[0], all[1]), 0, 1, 0);
        why(backwards(all[0], all[2]), 0, 1, 0);
        why(backwards(all[0]), 0, 1, 2);
    }

    /** Kind 1 ahead of kind 2: VISIT 0 reads what it writes, VISIT 1 only writes there. */
    private static void whyByAims() {
        Check.sentence("promise 39", "then by kind): by each AIM");
        for (int which = 1; which <= 2; which++) {
            why(backwards(new int[] {0, 1, 0}, new int[] {which, 1, -1}), 0, 1, 0);
            why(backwards(new int[] {0, 1, 0}, new int[] {which, 1, 1}), 0, 1, 1);
            LoopLoom x = new LoopLoom();
            x.array(0, 0);
            x.loop(Check.NONE, 0, Check.number(x, 1), false);
            x.act(x.test(0, Check.sum(x, 4, -1), 0), 1, 0);
            x.act(x.test(0, Check.sum(x, 4, 1, 0, -1), 0), 1, 0);
            x.aim(2, 0, 0, 0, 0);
            x.aim(2, which, 0, 0, 0);
            x.aim(4, 0, 0, 0, 0);
            x.back(0);
            why(x, 0, 1, 1);
            Check.due("both write, too", x.needs(2, 4, 2), 1);
        }
    }

    private static void whyNone() {
        Check.sentence("promise 39", "NONE: it is ALLOWED");
        for (int what = 0; what < 3; what++) {
            Check.due("nothing", new LoopLoom().why(what), Check.NONE);
            LoopLoom x = backwards(new int[] {0, 0, 0});
            x.undo();
            Check.due("in the program's order", x.why(what), Check.NONE);
            Check.due("no FINDING", x.finding(), 0);
        }
        LoopLoom y = backwards(new int[] {0, 0, 0});
        Check.due("why(1)", y.why(1), 1);
        y.aim(1, 0, 0, 0, Check.letter(y, 0));
        Check.due("an AIM changes it", y.why(1), Check.NONE);
        y.aim(1, 0, 0, 0, 0);
        Check.due("and back", y.why(1), 1);
    }

    private static void whyBad() {
        Check.sentence("promise 39", "BAD; SPENT");
        LoopLoom x = backwards(new int[] {0, 0, 0});
        int[] none = {-1, 3, Check.MIN, Check.MAX};
        for (int what : none) Check.due("why(" + what + ")", x.why(what), Check.BAD);
        x.back(0);
        for (int what : none) Check.due("BAD ahead of NONE", x.why(what), Check.BAD);
        x.act(x.loop(Check.NONE, 0, Check.number(x, 400), false), 4, 0);
        Check.due("SPENT", x.why(0), Check.SPENT);
        Check.due("BAD ahead of SPENT", x.why(3), Check.BAD);
    }
}
