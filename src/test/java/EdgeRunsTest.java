/** Terms 2, of ACTS that are done, Terms 5 and promises 40 to 45: a test for each sentence that names a boundary. */
public final class EdgeRunsTest {
    public static void main(String[] args) {
        aimsNoneAtFirst();
        readInOrder();
        sorts();
        lackingAims();
        longsThatWrap();
        cutToItsKind();
        nothingWritten();
        whatIsMet();
        endsThere();
        places();
        roomOfPieces();
        touchedLast();
        piecesOfArrays();
        runHowMany();
        endedOfLatest();
        endedBefore();
        endedAtPoint();
        endedBad();
        fetchedBad();
        bestChoices();
        bestFirst();
        bestNothingMade();
        bestBad();
        bestNone();
        linesAsLongAsCanBe();
        lineAlone();
        linesSpent();
        writtenTold();
        writtenNone();
        Check.end();
    }

    private static LoopLoom spent() {
        LoopLoom x = new LoopLoom();
        x.loop(Check.NONE, 0, Check.number(x, 400), false);
        x.act(0, 4, 0);
        return x;
    }

    /** An ACT at the top; ARRAY 0 of longs has rows of 3 places (10, 20, 30), ARRAY 1 of bytes one of 1. */
    private static LoopLoom one(int sort, int k) {
        LoopLoom x = new LoopLoom();
        x.act(Check.NONE, sort, k);
        x.array(3, 3);
        x.row(0, 0, 3);
        for (int j = 0; j < 3; j++) x.lay(0, 0, j, 10 * j + 10);
        x.array(0, 1);
        x.row(1, 0, 1);
        Check.number(x, 1);
        Check.number(x, 2);
        return x;
    }

    private static void aimsNoneAtFirst() {
        Check.sentence("Terms 2", "an ARRAY, a SUM for the row, a SUM for the place in it; none at first");
        LoopLoom x = one(4, 9);
        long before = x.digest();
        Check.due("run(false)", x.run(false), 1);
        Check.due("nothing is written", x.digest(), before);
        Check.due("nothing is TOUCHED", x.fetched(1, 1), 0);
        x.aim(0, 0, 0, 0, 2);
        x.run(false);
        Check.due("place 2", Check.at(x, 0, 0, 2), 9);
    }

    private static void readInOrder() {
        Check.sentence("Terms 2", "AIM 1 is read, then AIM 2 (those that it has), then what its sort tells; then AIM 0 gets that");
        LoopLoom x = one(3, 0);
        int far = Check.number(x, -1);
        x.aim(0, 1, 0, 1, 0);
        x.aim(0, 2, 0, 0, far);
        x.aim(0, 0, 0, far, 0);
        Check.met(x, "AIM 1: a row that is missing", 0, x.run(false), Check.NOTHING);
        x.row(0, 1, 1);
        Check.met(x, "AIM 2: no such place", 0, x.run(false), Check.BEYOND);
        x.aim(0, 2, 0, 1, 0);
        Check.met(x, "the sort: by 0", 0, x.run(false), Check.NOUGHT);
        x.lay(0, 1, 0, 5);
        Check.met(x, "AIM 0: no such row", 1, x.run(false), Check.BEYOND);
        x.aim(0, 0, 0, 2, 0);
        Check.met(x, "AIM 0: a row that is missing", 1, x.run(false), Check.NOTHING);
        LoopLoom y = one(4, 8);
        y.aim(0, 2, 0, 1, 0);
        y.aim(0, 0, 0, 0, 0);
        Check.met(y, "a number k alone: AIM 2 is read all the same", 0, y.run(false), Check.NOTHING);
        Check.due("and nothing is written", Check.at(y, 0, 0, 0), 10);
        LoopLoom z = one(2, 0);
        for (int which = 0; which < 3; which++) z.aim(0, which, 0, 0, 1);
        z.run(false);
        Check.due("both are read ahead of what is written: 20 times 20", Check.at(z, 0, 0, 1), 400);
    }

    private static long outcome(int sort, int k, long first, long second) {
        LoopLoom x = one(sort, k);
        x.lay(0, 0, 0, first);
        x.lay(0, 0, 1, second);
        x.aim(0, 1, 0, 0, 0);
        x.aim(0, 2, 0, 0, 1);
        x.aim(0, 0, 0, 0, 2);
        Check.due("run(true) of sort " + sort, x.run(true), 1);
        return Check.at(x, 0, 0, 2);
    }

    private static void sorts() {
        Check.sentence("Terms 2", "0 the first, 1 both together, 2 the first times the second, 3 the first by the second, cut (NOUGHT), 4 a number k, 5 the first and k");
        long[] want = {-7, -5, -14, -3, 9, 2};
        for (int sort = 0; sort <= 5; sort++) Check.due("sort " + sort, outcome(sort, 9, -7, 2), want[sort]);
        Check.due("7 by -2", outcome(3, 0, 7, -2), -3);
        Check.due("-7 by -2", outcome(3, 0, -7, -2), 3);
        Check.due("1 by 2", outcome(3, 0, 1, 2), 0);
        Check.due("0 by 2", outcome(3, 0, 0, 2), 0);
        LoopLoom x = one(3, 0);
        x.lay(0, 0, 1, 0);
        x.aim(0, 1, 0, 0, 0);
        x.aim(0, 2, 0, 0, 1);
        Check.met(x, "by 0, without AIM 0, too", 0, x.run(false), Check.NOUGHT);
    }

    private static void lackingAims() {
        Check.sentence("Terms 2", "(an AIM that it has not is 0 there");
        long[] alone = {0, 0, 0, 0, 9, 9};
        long[] first = {20, 20, 0, 0, 9, 29};
        long[] second = {0, 20, 0, 0, 9, 9};
        for (int sort = 0; sort <= 5; sort++) {
            for (int aims = 0; aims < 3; aims++) {
                LoopLoom x = one(sort, 9);
                if (aims > 0) x.aim(0, aims, 0, 0, 1);
                x.aim(0, 0, 0, 0, 2);
                if (sort == 3 && aims < 2) {
                    Check.met(x, "no AIM 2 to divide by", 0, x.run(false), Check.NOUGHT);
                    continue;
                }
                Check.due("run(false)", x.run(false), 1);
                long want = aims == 0 ? alone[sort] : aims == 1 ? first[sort] : second[sort];
                Check.due("sort " + sort + " with AIM " + aims, Check.at(x, 0, 0, 2), want);
            }
        }
    }

    private static void longsThatWrap() {
        Check.sentence("Terms 2", "longs, which wrap)");
        long max = Long.MAX_VALUE;
        long min = Long.MIN_VALUE;
        Check.due("both together", outcome(1, 0, max, 1), min);
        Check.due("both together", outcome(1, 0, min, -1), max);
        Check.due("times", outcome(2, 0, max, max), 1);
        Check.due("times", outcome(2, 0, min, -1), min);
        Check.due("by", outcome(3, 0, min, -1), min);
        Check.due("and k", outcome(5, 1, max, 0), min);
        Check.due("and k", outcome(5, Check.MIN, min, 0), max + 1 + Check.MIN);
        Check.due("above an int", outcome(1, 0, Check.MAX, Check.MAX), 2L * Check.MAX);
        Check.due("k as it is", outcome(4, Check.MIN, 0, 0), Check.MIN);
    }

    private static void cutToItsKind() {
        Check.sentence("Terms 2", "then AIM 0 gets that, cut to its kind");
        long[] values = {127, 128, -129, 32768, 1L << 31, (1L << 40) + 5};
        for (int kind = 0; kind < 4; kind++) {
            for (long v : values) {
                LoopLoom x = one(0, 0);
                x.lay(0, 0, 0, v);
                int array = x.array(kind, 1);
                x.row(array, 0, 1);
                x.aim(0, 1, 0, 0, 0);
                x.aim(0, 0, array, 0, 0);
                x.run(false);
                long cut = kind == 0 ? (byte) v : kind == 1 ? (short) v : kind == 2 ? (int) v : v;
                Check.due(v + " cut to kind " + kind, Check.at(x, array, 0, 0), cut);
            }
        }
    }

    private static void nothingWritten() {
        Check.sentence("Terms 2", "(without it nothing is written)");
        for (int sort = 0; sort <= 5; sort++) {
            LoopLoom x = one(sort, 9);
            x.aim(0, 1, 0, 0, 0);
            x.aim(0, 2, 0, 0, 1);
            long before = x.digest();
            Check.due("run(false)", x.run(false), 1);
            Check.due("digest()", x.digest(), before);
        }
    }

    private static void whatIsMet() {
        Check.sentence("Terms 2", "The first that can not be is met: NOTHING, BEYOND, NOUGHT");
        for (int which = 0; which < 3; which++) {
            LoopLoom x = one(0, 0);
            int low = Check.number(x, -1);
            int three = Check.number(x, 3);
            int[][] lacking = {{1, 0, 1}, {2, low, 1}, {three, 0, 2}, {low, 0, 2}, {0, three, 2}, {0, low, 2}};
            for (int[] l : lacking) {
                x.aim(0, which, 0, l[0], l[1]);
                Check.met(x, "AIM " + which, x.findings(l[2]), x.run(false), l[2]);
            }
            x.aim(0, which, 0, 0, 2);
            Check.due("the last place", x.run(false), 1);
        }
    }

    /** LOOP 0 over 0 .. 4 with ACT 1: k at place i of a row of 3. */
    private static LoopLoom short3() {
        LoopLoom x = new LoopLoom();
        x.loop(Check.NONE, 0, Check.number(x, 4), false);
        x.act(0, 4, 7);
        x.array(0, 1);
        x.row(0, 0, 3);
        x.aim(1, 0, 0, 0, Check.letter(x, 0));
        return x;
    }

    private static void endsThere() {
        Check.sentence("Terms 5", "what is met ends it there; what was written stays");
        LoopLoom x = short3();
        Check.met(x, "run(false)", 0, x.run(false), Check.BEYOND);
        for (int j = 0; j < 3; j++) Check.due("place " + j, Check.at(x, 0, 0, j), 7);
        x.row(0, 0, 3);
        x.back(0);
        Check.met(x, "run(true), from behind", 1, x.run(true), Check.BEYOND);
        for (int j = 0; j < 3; j++) Check.due("place " + j, Check.at(x, 0, 0, j), 0);
        x.row(0, 0, 5);
        Check.due("all", x.run(true), 5);
        for (int j = 0; j < 5; j++) Check.due("place " + j, Check.at(x, 0, 0, j), 7);
    }

    /** A LOOP from a number on, so many turns, with an ACT that reads the places. */
    private static LoopLoom reader(int from, int turns) {
        LoopLoom x = new LoopLoom();
        x.act(x.loop(Check.NONE, Check.number(x, from), Check.number(x, from + turns - 1), false), 0, 0);
        x.array(0, 0);
        x.aim(1, 1, 0, 0, Check.letter(x, 0));
        return x;
    }

    private static void places() {
        Check.sentence("Terms 5", "places of one row of one ARRAY, cut down by w, are a PIECE");
        Check.due("-3 .. 3 by 1", reader(-3, 7).fetched(1, 1), 7);
        Check.due("-3 | -2 -1 | 0 1 | 2 3", reader(-3, 7).fetched(1, 2), 4);
        Check.due("-1 | 0", reader(-1, 2).fetched(1, 20), 2);
        Check.due("0 .. 19", reader(0, 20).fetched(1, 20), 1);
        Check.due("0 .. 20", reader(0, 21).fetched(1, 20), 2);
        Check.due("-20 .. -1", reader(-20, 20).fetched(1, 20), 1);
        Check.due("-21 .. -1", reader(-21, 21).fetched(1, 20), 2);
    }

    /** Place i and then all again: LOOP of 2 turns around one of so many. */
    private static int twice(int places, int n) {
        LoopLoom x = new LoopLoom();
        int outer = x.loop(Check.NONE, 0, Check.number(x, 1), false);
        x.act(x.loop(outer, 0, Check.number(x, places - 1), false), 0, 0);
        x.array(0, 0);
        x.aim(2, 2, 0, Check.letter(x, 1), 0);
        return x.fetched(n, 20);
    }

    private static void roomOfPieces() {
        Check.sentence("Terms 5", "a room has n PIECES");
        int[] rooms = {1, 2, 3, 15, 16};
        for (int n : rooms) {
            Check.due(n + " in a room of " + n, twice(n, n), n);
            Check.due(n + 1 + " in a room of " + n, twice(n + 1, n), 2 * n + 2);
        }
    }

    private static void touchedLast() {
        Check.sentence("Terms 5", "those that were TOUCHED last; a PIECE that is not in it is fetched");
        int[][] runs = {{0, 1, 0, 2, 0, 1, 4}, {0, 1, 2, 0, 1, 2, 6}, {0, 1, 1, 0, 2, 1, 4}, {0, 0, 0, 0, 0, 0, 1}};
        for (int[] r : runs) {
            LoopLoom x = new LoopLoom();
            x.array(0, 0);
            int[] sums = {0, Check.number(x, 1), Check.number(x, 2)};
            for (int i = 0; i < 6; i++) x.aim(x.act(Check.NONE, 0, 0), 1 + i % 2, 0, sums[r[i]], 0);
            Check.due("a room of 2", x.fetched(2, 1), r[6]);
        }
        LoopLoom y = new LoopLoom();
        y.array(0, 0);
        int first = y.act(Check.NONE, 0, 0);
        int second = y.act(Check.NONE, 0, 0);
        int one = Check.number(y, 1);
        y.aim(first, 0, 0, 0, 0);
        y.aim(first, 1, 0, one, 0);
        y.aim(first, 2, 0, 0, one);
        y.aim(second, 1, 0, 0, 0);
        Check.due("AIMS 1, 2, 0: the last is there for the next VISIT", y.fetched(1, 1), 3);
    }

    /** Places 0 of ARRAYS 0 and 1 and of rows 0 and 1, again and again: they may not be mixed up. */
    private static void piecesOfArrays() {
        Check.sentence("Terms 5", "places of one row of one ARRAY: another row, another ARRAY is another PIECE");
        LoopLoom x = new LoopLoom();
        for (int a = 0; a < 8; a++) x.array(0, 0);
        x.loop(Check.NONE, 0, Check.number(x, 2), false);
        for (int a = 0; a < 8; a++) {
            int act = x.act(0, 0, 0);
            x.aim(act, 1, a, 0, 0);
            x.aim(act, 2, a, Check.number(x, 1), 0);
        }
        Check.due("16 PIECES, three times", x.fetched(16, 1), 16);
        Check.due("a room that is too small", x.fetched(15, 1), 48);
    }

    private static void runHowMany() {
        Check.sentence("promise 40", "A run (fresh: in THE NEW ORDER): how many VISITS it did. SPENT; FINDING: it ended by that");
        Check.due("none", new LoopLoom().run(false), 0);
        Check.due("none", new LoopLoom().run(true), 0);
        LoopLoom x = short3();
        x.row(0, 0, 5);
        Check.due("5", x.run(false), 5);
        Check.due("SPENT", spent().run(false), Check.SPENT);
        Check.due("SPENT", spent().run(true), Check.SPENT);
        x.tear(0, 0);
        Check.met(x, "run(true)", 0, x.run(true), Check.NOTHING);
        LoopLoom y = new LoopLoom();
        y.act(y.loop(Check.NONE, 0, Check.number(y, 399), false), 4, 0);
        Check.due("400", y.run(true), 400);
    }

    private static void endedOfLatest() {
        Check.sentence("promise 41", "Of the latest run() that was not SPENT: 0 how many VISITS it did wholly, 1 the ACT at which it ended (NONE: it did all)");
        LoopLoom x = short3();
        x.run(false);
        Check.due("ended(0)", x.ended(0), 3);
        Check.due("ended(1)", x.ended(1), 1);
        x.row(0, 0, 5);
        x.run(false);
        Check.due("all, behind one that was ended: ended(0)", x.ended(0), 5);
        for (int what = 1; what < 6; what++) Check.due("ended(" + what + ")", x.ended(what), Check.NONE);
        x.tear(0, 0);
        x.run(true);
        Check.due("at once: ended(0)", x.ended(0), 0);
        Check.due("ended(1)", x.ended(1), 1);
        x.act(x.loop(Check.NONE, 0, Check.number(x, 400), false), 4, 0);
        Check.due("SPENT", x.run(true), Check.SPENT);
        Check.due("it stays: ended(0)", x.ended(0), 0);
        Check.due("it stays: ended(1)", x.ended(1), 1);
        LoopLoom y = new LoopLoom();
        y.run(false);
        Check.due("of no VISIT: ended(0)", y.ended(0), 0);
        Check.due("of no VISIT: ended(1)", y.ended(1), Check.NONE);
    }

    private static void endedBefore() {
        Check.sentence("promise 41", "Of the latest run(): before any");
        LoopLoom x = short3();
        int[] want = {0, Check.NONE, Check.NONE, Check.NONE, Check.NONE, Check.NONE};
        for (int what = 0; what < 6; what++) Check.due("ended(" + what + ")", x.ended(what), want[what]);
        LoopLoom y = spent();
        y.run(false);
        for (int what = 0; what < 6; what++) Check.due("behind SPENT: ended(" + what + ")", y.ended(what), want[what]);
    }

    private static void endedAtPoint() {
        Check.sentence("promise 41", "2 to 5 the POINT there (as 100000 and more; NONE)");
        LoopLoom x = new LoopLoom();
        int[] numbers = {-1000, 1000, -3, 4};
        int parent = Check.NONE;
        for (int v : numbers) parent = x.loop(parent, Check.number(x, v), Check.number(x, v), false);
        x.act(parent, 3, 0);
        Check.met(x, "run(false)", 0, x.run(false), Check.NOUGHT);
        for (int d = 0; d < 4; d++) Check.due("ended(" + (2 + d) + ")", x.ended(2 + d), 100000 + numbers[d]);
        Check.due("ended(0)", x.ended(0), 0);
        LoopLoom y = new LoopLoom();
        y.act(Check.NONE, 3, 0);
        y.run(true);
        for (int what = 2; what < 6; what++) Check.due("no LOOP around: ended(" + what + ")", y.ended(what), 100000);
    }

    private static void endedBad() {
        Check.sentence("promise 41", "BAD");
        LoopLoom x = short3();
        int[] none = {-1, 6, Check.MIN, Check.MAX};
        for (int what : none) Check.due("ended(" + what + ")", x.ended(what), Check.BAD);
        x.run(false);
        for (int what : none) Check.due("ended(" + what + ")", x.ended(what), Check.BAD);
    }

    private static void fetchedBad() {
        Check.sentence("promise 42", "how many times, with a room of n PIECES (1 .. 16) of w places (1 .. 20). BAD; SPENT");
        LoopLoom x = reader(0, 3);
        int[][] bad = {{0, 1}, {17, 1}, {1, 0}, {1, 21}, {-1, 1}, {1, -1}, {Check.MAX, 1}, {1, Check.MIN}, {0, 0}};
        for (int[] b : bad) {
            Check.due("fetched(" + b[0] + ", " + b[1] + ")", x.fetched(b[0], b[1]), Check.BAD);
            Check.due("BAD ahead of SPENT", spent().fetched(b[0], b[1]), Check.BAD);
        }
        Check.due("fetched(1, 1)", x.fetched(1, 1), 3);
        Check.due("fetched(16, 20)", x.fetched(16, 20), 1);
        Check.due("SPENT", spent().fetched(16, 20), Check.SPENT);
        Check.due("none", new LoopLoom().fetched(1, 1), 0);
    }

    /** Four LOOPS over 0 .. 2, an ACT that reads row 0 at the place of one LETTER: best is when that goes slowest. */
    private static void bestChoices() {
        Check.sentence("promise 43", "Of the TURNS: none, swap(loop, e) for each e above its LETTER, back(loop)");
        for (int d = 0; d < 4; d++) {
            LoopLoom x = new LoopLoom();
            int two = Check.number(x, 2);
            for (int k = 0; k < 4; k++) x.loop(k == 0 ? Check.NONE : k - 1, 0, two, false);
            x.act(3, 0, 0);
            x.array(0, 0);
            x.aim(4, 1, 0, 0, Check.letter(x, d));
            Check.due("best(0, 1, 1)", x.best(0, 1, 1), 3);
            Check.due("by one TURN, or none", x.count(4), d == 0 ? 0 : 1);
            Check.due("LETTER " + d + " goes slowest", x.order(4, 1, 1 + d), 1000001);
            Check.due("LETTER 0 is told where it was", x.order(4, 1 + 2 * d, 1), 1000001);
        }
        LoopLoom y = new LoopLoom();
        y.array(0, 0);
        y.aim(y.act(Check.NONE, 0, 0), 1, 0, 0, Check.number(y, 2));
        y.aim(y.act(y.loop(Check.NONE, 0, Check.number(y, 2), true), 0, 0), 1, 0, 0, Check.letter(y, 0));
        Check.due("2 | 0 1 2 or 2 | 2 1 0", y.best(1, 1, 1), 3);
        Check.due("by back(1)", y.order(2, 1, 1), 999999);
        Check.due("count(4)", y.count(4), 1);
        Check.due("undo()", y.undo(), 0);
        Check.due("fetched(1, 1)", y.fetched(1, 1), 4);
    }

    private static void bestFirst() {
        Check.sentence("promise 43", "in this order: the first one with which THE NEW ORDER is ALLOWED and fewest are fetched (with n and w) is made");
        LoopLoom x = new LoopLoom();
        int one = Check.number(x, 1);
        int two = Check.number(x, 2);
        int outer = x.loop(Check.NONE, one, two, false);
        x.act(x.loop(outer, one, two, false), 0, 0);
        x.array(0, 0);
        x.aim(2, 0, 0, Check.letter(x, 0), Check.letter(x, 1));
        x.aim(2, 1, 0, Check.sum(x, 4, 1, 0, -1), Check.sum(x, 5, 1, 0, -1));
        x.back(0);
        Check.due("from behind it is not ALLOWED", x.allowed(), 0);
        Check.due("swap(0, 1) and back(0) are, with three rows each", x.best(0, 16, 20), 3);
        Check.due("swap(0, 1) is ahead", x.order(2, 1, 2), 1000001);
        Check.due("it is made", x.count(4), 2);
        Check.due("allowed()", x.allowed(), 1);
        x.undo();
        x.undo();
        Check.due("of those that are all ALLOWED none is ahead", x.best(0, 16, 20), 3);
        Check.due("count(4)", x.count(4), 0);
        bestThatIsAllowed();
    }

    /** Reads place j of row 0, writes place i + j of row 1. */
    private static void bestThatIsAllowed() {
        LoopLoom x = new LoopLoom();
        int two = Check.number(x, 2);
        int outer = x.loop(Check.NONE, 0, two, false);
        x.act(x.loop(outer, 0, two, false), 0, 0);
        x.array(0, 0);
        x.aim(2, 1, 0, 0, Check.letter(x, 1));
        x.aim(2, 0, 0, Check.number(x, 1), Check.sum(x, 4, 1, 5, 1));
        x.swap(0, 1);
        Check.due("fewer by a swap", x.fetched(2, 1), 12);
        Check.due("which is not ALLOWED", x.allowed(), 0);
        x.undo();
        Check.due("none is the best one", x.best(0, 2, 1), 18);
        Check.due("count(4)", x.count(4), 0);
    }

    private static void bestNothingMade() {
        Check.sentence("promise 43", "(none: nothing is made, nothing to undo); how many are");
        LoopLoom x = reader(0, 5);
        long before = x.digest();
        Check.due("all alike: none", x.best(0, 1, 1), 5);
        Check.due("count(4)", x.count(4), 0);
        Check.due("undo()", x.undo(), Check.STATE);
        Check.due("digest()", x.digest(), before);
        LoopLoom y = new LoopLoom();
        int outer = y.loop(Check.NONE, 0, 0, false);
        y.act(y.loop(outer, 0, 0, false), 4, 0);
        Check.due("none is fetched at all", y.best(0, 16, 20), 0);
        Check.due("count(4)", y.count(4), 0);
        LoopLoom z = new LoopLoom();
        z.loop(Check.NONE, 0, 0, false);
        Check.due("no ACT", z.best(0, 1, 1), 0);
        Check.due("count(4)", z.count(4), 0);
    }

    private static void bestBad() {
        Check.sentence("promise 43", "BAD: the NODE, n, w; SPENT; UNLIKE");
        LoopLoom x = reader(0, 3);
        int[][] bad = {{2, 1, 1}, {-1, 1, 1}, {Check.NONE, 1, 1}, {0, 0, 1}, {0, 17, 1}, {0, 1, 0}, {0, 1, 21},
            {1, 0, 1}, {1, 17, 1}, {1, 1, 0}, {1, 1, 21}};
        for (int[] b : bad) {
            Check.due("best(" + b[0] + ", " + b[1] + ", " + b[2] + ")", x.best(b[0], b[1], b[2]), Check.BAD);
            Check.due("BAD ahead of SPENT", spent().best(b[0], b[1], b[2]), Check.BAD);
        }
        Check.due("no FINDING", x.finding(), 0);
        Check.met(x, "an ACT", 0, x.best(1, 1, 1), Check.UNLIKE);
        Check.due("SPENT ahead of UNLIKE", spent().best(1, 1, 1), Check.SPENT);
        Check.due("SPENT", spent().best(0, 1, 1), Check.SPENT);
        Check.due("best(0, 16, 20)", x.best(0, 16, 20), 1);
        Check.met(x, "a TEST", 1, x.best(x.test(0, 0, 0), 1, 1), Check.UNLIKE);
    }

    private static void bestNone() {
        Check.sentence("promise 43", "NONE: with none of these it is ALLOWED");
        LoopLoom x = Recipes.crossed();
        long before = x.digest();
        int kept = x.count(4);
        Check.due("best(0, 1, 1)", x.best(0, 1, 1), Check.NONE);
        Check.due("digest()", x.digest(), before);
        Check.due("count(4)", x.count(4), kept);
        Check.due("no FINDING", x.finding(), 0);
        x.undo();
        Check.due("with back(0) it is", x.best(0, 1, 1), 1);
        Check.due("count(4)", x.count(4), kept);
        Check.due("allowed()", x.allowed(), 1);
    }

    /** THE NEW ORDER of a LOOP's turns as LINES, "first+step*many first+step*many ..". */
    private static String lines(LoopLoom x) {
        StringBuilder b = new StringBuilder();
        int[] what = {1, 5, 9};
        for (int i = 0; i < x.lines(); i++) {
            b.append(i == 0 ? "" : " ");
            for (int k = 0; k < 3; k++) {
                Check.due("written(" + i + ", " + what[k] + ")", x.written(i, what[k]), 1);
                b.append(k == 0 ? "" : k == 1 ? "+" : "*").append(x.asked());
            }
        }
        return b.toString();
    }

    private static void linesAsLongAsCanBe() {
        Check.sentence("Terms 5", "parted into LINES as long as can be, from the first VISIT on");
        LoopLoom x = new LoopLoom();
        x.act(x.loop(Check.NONE, 0, Check.number(x, 5), false), 4, 0);
        Check.same("one", lines(x), "0+1*6");
        x.tile(0, 1, 3);
        x.back(0);
        Check.same("2 1 0 5 4 3", lines(x), "2+-1*3 5+-1*3");
        x.undo();
        x.undo();
        x.tile(0, 1, 2);
        x.back(0);
        Check.same("1 0 3 2 5 4: by twos from the first on", lines(x), "1+-1*2 3+-1*2 5+-1*2");
        LoopLoom y = new LoopLoom();
        int loop = y.loop(Check.NONE, 0, Check.number(y, 9), false);
        int test = y.test(loop, Check.sum(y, 4, -1, 0, 3), 0);
        y.act(test, 4, 0);
        y.act(y.test(loop, Check.sum(y, 4, 1, 0, -5), 0), 4, 0);
        Check.same("another ACT is another LINE", lines(y), "0+1*4 5+1*5");
        LoopLoom z = new LoopLoom();
        loop = z.loop(Check.NONE, 0, Check.number(z, 8), false);
        z.act(z.test(z.test(loop, Check.letter(z, 0), 2), Check.sum(z, 4, 1, 0, -2), 1), 4, 0);
        Check.same("steps of 2", lines(z), "0+2*5");
    }

    private static void lineAlone() {
        Check.sentence("Terms 5", "differ from the one ahead by the same four numbers (of two or more; a VISIT alone: 0s)");
        LoopLoom x = new LoopLoom();
        int parent = Check.NONE;
        int one = Check.number(x, 1);
        for (int d = 0; d < 4; d++) parent = x.loop(parent, 0, d == 3 ? one : 0, false);
        x.act(parent, 4, 0);
        x.act(0, 4, 0);
        Check.due("two, and one alone", x.lines(), 2);
        long[][] want = {{4, 0, 0, 0, 0, 0, 0, 0, 1, 2}, {5, 0, 0, 0, 0, 0, 0, 0, 0, 1}};
        for (int i = 0; i < 2; i++) {
            for (int what = 0; what < 10; what++) {
                Check.asked(x, "written(" + i + ", " + what + ")", x.written(i, what), want[i][what]);
            }
        }
        LoopLoom y = new LoopLoom();
        int outer = y.loop(Check.NONE, 0, Check.number(y, 1), false);
        y.act(y.loop(outer, 0, Check.number(y, 1), false), 4, 0);
        y.lean(1, 0, 1);
        Check.due("0,0 0,1 | 1,0 1,1: each number has to be the same", y.lines(), 2);
        y.act(y.loop(Check.NONE, 0, 0, false), 4, 0);
        Check.asked(y, "one alone behind a LINE", y.written(2, 5), 0);
        Check.asked(y, "one alone behind a LINE", y.written(2, 9), 1);
        LoopLoom z = new LoopLoom();
        z.act(z.loop(Check.NONE, Check.number(z, 5), Check.number(z, 6), false), 4, 0);
        z.act(0, 4, 0);
        for (int i = 0; i < 4; i++) {
            Check.asked(z, "ACTS by turns: 0s", z.written(i, 5), 0);
            Check.asked(z, "ACTS by turns: one", z.written(i, 9), 1);
        }
    }

    private static void linesSpent() {
        Check.sentence("promise 44", "How many LINES. SPENT");
        Check.due("none", new LoopLoom().lines(), 0);
        Check.due("SPENT", spent().lines(), Check.SPENT);
        LoopLoom x = new LoopLoom();
        x.act(x.loop(Check.NONE, 0, Check.number(x, 399), false), 4, 0);
        Check.due("one of 400", x.lines(), 1);
        LoopLoom y = new LoopLoom();
        y.act(y.loop(Check.NONE, 0, Check.number(y, 199), false), 4, 0);
        y.act(0, 4, 0);
        Check.due("400 of one", y.lines(), 400);
    }

    private static void writtenTold() {
        Check.sentence("promise 45", "0 its ACT, 1 to 4 its first POINT, 5 to 8 how POINTS differ, 9 how many VISITS it has, told by asked(): 1. BAD: what; SPENT");
        LoopLoom x = new LoopLoom();
        int low = Check.number(x, -1000);
        int parent = Check.NONE;
        for (int d = 0; d < 4; d++) {
            int from = Check.number(x, d + 1);
            parent = x.loop(parent, d == 0 ? low : from, d == 0 ? low : from, false);
        }
        x.act(parent, 4, 0);
        long[] want = {4, -1000, 2, 3, 4, 0, 0, 0, 0, 1};
        for (int what = 0; what < 10; what++) Check.asked(x, "written(0, " + what + ")", x.written(0, what), want[what]);
        int[] none = {-1, 10, Check.MIN, Check.MAX};
        for (int what : none) {
            Check.due("written(0, " + what + ")", x.written(0, what), Check.BAD);
            Check.due("BAD ahead of NONE", x.written(9, what), Check.BAD);
            Check.due("BAD ahead of SPENT", spent().written(0, what), Check.BAD);
        }
        Check.due("asked() stays", x.asked(), 1);
        Check.due("SPENT", spent().written(0, 0), Check.SPENT);
        Check.due("SPENT ahead of NONE", spent().written(-1, 9), Check.SPENT);
    }

    private static void writtenNone() {
        Check.sentence("promise 45", "NONE: none such");
        LoopLoom x = new LoopLoom();
        Check.due("no LINE at all", x.written(0, 0), Check.NONE);
        x.act(x.loop(Check.NONE, 0, Check.number(x, 199), false), 4, 0);
        x.act(0, 4, 0);
        int[] none = {400, -1, 401, Check.MIN, Check.MAX};
        for (int i : none) Check.due("written(" + i + ", 0)", x.written(i, 0), Check.NONE);
        Check.asked(x, "the last one", x.written(399, 1), 199);
        Check.asked(x, "the first one", x.written(0, 1), 0);
    }
}
