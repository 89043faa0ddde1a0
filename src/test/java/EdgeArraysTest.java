/** Terms 2, of ARRAYS, and promises 15 to 20: a test for each sentence that names a boundary. */
public final class EdgeArraysTest {
    public static void main(String[] args) {
        eightArrays();
        kinds();
        rowsMissingAtFirst();
        placesOfRows();
        arrayBad();
        arrayFull();
        rowAnew();
        rowOrder();
        tearMissing();
        tearBad();
        layCut();
        layOrder();
        getTold();
        getAsLay();
        askedLatest();
        askedBefore();
        Check.end();
    }

    private static void eightArrays() {
        Check.sentence("Terms 2", "ARRAYS 0, 1, .. (8 at most)");
        LoopLoom x = new LoopLoom();
        for (int a = 0; a < 8; a++) Check.due("array(" + a % 4 + ", 1)", x.array(a % 4, 1), a);
        Check.due("a ninth", x.array(0, 1), Check.FULL);
        Check.due("count(3)", x.count(3), 8);
        Check.due("row(7, 0, 1)", x.row(7, 0, 1), 1);
        Check.due("row(8, 0, 1)", x.row(8, 0, 1), Check.BAD);
        Check.due("lay(7, 0, 0, 5)", x.lay(7, 0, 0, 5), 1);
        Check.met(x, "the others are apart", 0, x.get(6, 0, 0), Check.NOTHING);
    }

    private static void kinds() {
        Check.sentence("Terms 2", "rows of rows of bytes (kind 0), shorts (1), ints (2), longs (3)");
        long[] greatest = {Byte.MAX_VALUE, Short.MAX_VALUE, Integer.MAX_VALUE, Long.MAX_VALUE};
        LoopLoom x = new LoopLoom();
        for (int kind = 0; kind < 4; kind++) {
            Check.square(x, kind, 1);
            x.lay(kind, 0, 0, greatest[kind]);
            Check.due("the greatest", Check.at(x, kind, 0, 0), greatest[kind]);
            x.lay(kind, 0, 0, greatest[kind] + 1);
            Check.due("one more is the least", Check.at(x, kind, 0, 0), -greatest[kind] - 1);
            x.lay(kind, 0, 0, -greatest[kind] - 2);
            Check.due("one less is the greatest", Check.at(x, kind, 0, 0), greatest[kind]);
        }
    }

    private static void rowsMissingAtFirst() {
        Check.sentence("Terms 2", "0 .. 20 rows, all missing at first");
        LoopLoom x = new LoopLoom();
        Check.due("array(0, 0)", x.array(0, 0), 0);
        Check.due("array(0, 20)", x.array(0, 20), 1);
        Check.due("array(0, 21)", x.array(0, 21), Check.BAD);
        Check.met(x, "no row 0 of none", 0, x.row(0, 0, 1), Check.BEYOND);
        for (int i = 0; i < 20; i++) Check.met(x, "row " + i + " is missing", i, x.get(1, i, 0), Check.NOTHING);
        Check.met(x, "no row 20", 1, x.row(1, 20, 1), Check.BEYOND);
        Check.due("row 19", x.row(1, 19, 1), 1);
        Check.due("row 0", x.row(1, 0, 1), 1);
        Check.met(x, "row 18 is missing still", 20, x.get(1, 18, 0), Check.NOTHING);
    }

    private static void placesOfRows() {
        Check.sentence("Terms 2", "each of 0 .. 20 places");
        LoopLoom x = new LoopLoom();
        x.array(3, 3);
        Check.due("row(0, 0, 0)", x.row(0, 0, 0), 0);
        Check.due("row(0, 1, 20)", x.row(0, 1, 20), 20);
        Check.due("row(0, 2, 1)", x.row(0, 2, 1), 1);
        Check.due("row(0, 2, 21)", x.row(0, 2, 21), Check.BAD);
        Check.met(x, "no place 0 of none, which is not missing", 0, x.get(0, 0, 0), Check.BEYOND);
        for (int j = 0; j < 20; j++) Check.due("lay(0, 1, " + j + ", j)", x.lay(0, 1, j, j + 1), 1);
        Check.met(x, "no place 20", 1, x.lay(0, 1, 20, 5), Check.BEYOND);
        for (int j = 0; j < 20; j++) Check.due("place " + j, Check.at(x, 0, 1, j), j + 1);
        Check.due("the row behind it stays", Check.at(x, 0, 2, 0), 0);
    }

    private static void arrayBad() {
        Check.sentence("promise 15", "An ARRAY of a kind with n rows: its number. BAD: also n above 20");
        LoopLoom x = new LoopLoom();
        int[][] bad = {{-1, 1}, {4, 1}, {Check.MIN, 1}, {Check.MAX, 1}, {0, 21}, {3, Check.MAX}, {4, -1}, {-1, -1}};
        for (int[] b : bad) Check.due("array(" + b[0] + ", " + b[1] + ")", x.array(b[0], b[1]), Check.BAD);
        Check.due("count(3)", x.count(3), 0);
        Check.due("no FINDING", x.finding(), 0);
        Check.due("array(3, 20)", x.array(3, 20), 0);
        Check.due("array(0, 0)", x.array(0, 0), 1);
    }

    private static void arrayFull() {
        Check.sentence("promise 15", "FULL; SIZE");
        LoopLoom x = new LoopLoom();
        Check.met(x, "array(0, -1)", 0, x.array(0, -1), Check.SIZE);
        Check.met(x, "array(3, MIN)", 1, x.array(3, Check.MIN), Check.SIZE);
        for (int a = 0; a < 8; a++) Check.due("array(0, 0)", x.array(0, 0), a);
        Check.due("FULL", x.array(0, 0), Check.FULL);
        Check.due("FULL ahead of SIZE", x.array(0, -1), Check.FULL);
        Check.due("BAD ahead of FULL", x.array(4, 0), Check.BAD);
        Check.due("BAD ahead of FULL", x.array(0, 21), Check.BAD);
        Check.due("no FINDING more", x.findings(Check.SIZE), 2);
    }

    private static void rowAnew() {
        Check.sentence("promise 16", "A row of an ARRAY has n places, all 0: n");
        LoopLoom x = new LoopLoom();
        x.array(3, 2);
        x.row(0, 0, 20);
        x.row(0, 1, 1);
        x.lay(0, 1, 0, 7);
        for (int j = 0; j < 20; j++) x.lay(0, 0, j, 9);
        Check.due("as long as it was", x.row(0, 0, 20), 20);
        for (int j = 0; j < 20; j++) Check.due("all 0", Check.at(x, 0, 0, j), 0);
        for (int j = 0; j < 20; j++) x.lay(0, 0, j, 9);
        Check.due("shorter", x.row(0, 0, 5), 5);
        Check.due("all 0", Check.at(x, 0, 0, 4), 0);
        Check.met(x, "no place 5", 0, x.get(0, 0, 5), Check.BEYOND);
        Check.due("longer", x.row(0, 0, 20), 20);
        for (int j = 0; j < 20; j++) Check.due("all 0", Check.at(x, 0, 0, j), 0);
        Check.due("another row stays", Check.at(x, 0, 1, 0), 7);
    }

    private static void rowOrder() {
        Check.sentence("promise 16", "BAD: the ARRAY, n above 20; BEYOND: no such row; SIZE (BEYOND ahead of it)");
        LoopLoom x = new LoopLoom();
        x.array(3, 2);
        x.row(0, 0, 3);
        x.lay(0, 0, 2, 8);
        int[][] bad = {{1, 0, 1}, {-1, 0, 1}, {0, 0, 21}, {0, 2, 21}, {0, -1, Check.MAX}, {1, 0, -1}, {Check.MAX, 0, 0}};
        for (int[] b : bad) Check.due("row(" + b[0] + ", " + b[1] + ", " + b[2] + ")", x.row(b[0], b[1], b[2]), Check.BAD);
        int[][] beyond = {{2, 1}, {-1, 1}, {Check.MAX, 0}, {Check.MIN, 0}, {2, -1}, {-1, -1}};
        for (int k = 0; k < beyond.length; k++) {
            Check.met(x, "row(0, " + beyond[k][0] + ", ..)", k, x.row(0, beyond[k][0], beyond[k][1]), Check.BEYOND);
        }
        Check.met(x, "row(0, 0, -1)", 0, x.row(0, 0, -1), Check.SIZE);
        Check.met(x, "row(0, 1, MIN)", 1, x.row(0, 1, Check.MIN), Check.SIZE);
        Check.due("the row stays", Check.at(x, 0, 0, 2), 8);
        Check.met(x, "the other one is missing still", 0, x.get(0, 1, 0), Check.NOTHING);
    }

    private static void tearMissing() {
        Check.sentence("promise 17", "A row of an ARRAY is missing: 1");
        LoopLoom x = new LoopLoom();
        x.array(0, 20);
        x.row(0, 19, 2);
        x.row(0, 0, 2);
        x.lay(0, 0, 0, 4);
        Check.due("the last row", x.tear(0, 19), 1);
        Check.met(x, "get(0, 19, 0)", 0, x.get(0, 19, 0), Check.NOTHING);
        Check.due("one that is missing", x.tear(0, 19), 1);
        Check.due("the first one stays", Check.at(x, 0, 0, 0), 4);
        Check.due("the first row", x.tear(0, 0), 1);
        Check.met(x, "get(0, 0, 0)", 1, x.get(0, 0, 0), Check.NOTHING);
        x.row(0, 0, 2);
        Check.due("a new row is all 0", Check.at(x, 0, 0, 0), 0);
    }

    private static void tearBad() {
        Check.sentence("promise 17", "BAD; BEYOND");
        LoopLoom x = new LoopLoom();
        Check.due("no ARRAY at all", x.tear(0, 0), Check.BAD);
        x.array(0, 1);
        x.array(0, 0);
        int[][] bad = {{2, 0}, {-1, 0}, {2, 5}, {Check.MIN, 0}};
        for (int[] b : bad) Check.due("tear(" + b[0] + ", " + b[1] + ")", x.tear(b[0], b[1]), Check.BAD);
        int[][] beyond = {{0, 1}, {0, -1}, {1, 0}, {0, Check.MAX}, {0, Check.MIN}};
        for (int k = 0; k < beyond.length; k++) {
            Check.met(x, "tear(" + beyond[k][0] + ", " + beyond[k][1] + ")", k, x.tear(beyond[k][0], beyond[k][1]), Check.BEYOND);
        }
    }

    private static void layCut() {
        Check.sentence("promise 18", "A place of an ARRAY is v, cut to its kind: 1");
        long[] values = {0, -1, 127, 128, 255, 256, -128, -129, 32767, 32768, -32769, 65536, Integer.MAX_VALUE,
            1L + Integer.MAX_VALUE, -1L + Integer.MIN_VALUE, 1L << 32, Long.MAX_VALUE, Long.MIN_VALUE};
        LoopLoom x = new LoopLoom();
        for (int kind = 0; kind < 4; kind++) {
            Check.square(x, kind, 2);
            for (long v : values) {
                long cut = kind == 0 ? (byte) v : kind == 1 ? (short) v : kind == 2 ? (int) v : v;
                Check.due("lay", x.lay(kind, 1, 1, v), 1);
                Check.due(v + " cut to kind " + kind, Check.at(x, kind, 1, 1), cut);
            }
            Check.due("a place beside it", Check.at(x, kind, 1, 0), 0);
        }
    }

    /** An ARRAY of three rows: of 2 places, missing, of none. */
    private static LoopLoom three() {
        LoopLoom x = new LoopLoom();
        x.array(3, 3);
        x.row(0, 0, 2);
        x.row(0, 2, 0);
        return x;
    }

    /** Rows and places that are not there, and what is met: NOTHING, BEYOND. */
    private static final int[][] LACKING = {{3, 0, 2}, {-1, 0, 2}, {3, 9, 2}, {Check.MAX, 0, 2}, {Check.MIN, 0, 2},
        {1, 0, 1}, {1, 9, 1}, {1, -1, 1}, {0, 2, 2}, {0, -1, 2}, {0, Check.MAX, 2}, {0, Check.MIN, 2}, {2, 0, 2}};

    private static void layOrder() {
        Check.sentence("promise 18", "BAD: the ARRAY; BEYOND, NOTHING: the row; BEYOND: the place");
        LoopLoom x = three();
        int[][] bad = {{1, 0, 0}, {-1, 0, 0}, {1, 9, 9}, {Check.MAX, 0, 0}};
        for (int[] b : bad) Check.due("lay(" + b[0] + ", " + b[1] + ", " + b[2] + ")", x.lay(b[0], b[1], b[2], 1), Check.BAD);
        long before = x.digest();
        for (int[] l : LACKING) {
            Check.met(x, "lay(0, " + l[0] + ", " + l[1] + ")", x.findings(l[2]), x.lay(0, l[0], l[1], 1), l[2]);
        }
        Check.due("nothing is changed", x.digest(), before);
        Check.due("the first place", x.lay(0, 0, 0, 1), 1);
        Check.due("the last place", x.lay(0, 0, 1, 1), 1);
    }

    private static void getTold() {
        Check.sentence("promise 19", "What a place of an ARRAY has, told by asked(): 1");
        LoopLoom x = three();
        x.lay(0, 0, 0, Long.MIN_VALUE);
        x.lay(0, 0, 1, Long.MAX_VALUE);
        Check.asked(x, "get(0, 0, 0)", x.get(0, 0, 0), Long.MIN_VALUE);
        Check.asked(x, "get(0, 0, 1)", x.get(0, 0, 1), Long.MAX_VALUE);
    }

    private static void getAsLay() {
        Check.sentence("promise 19", "As lay()");
        LoopLoom x = three();
        x.lay(0, 0, 1, 6);
        x.get(0, 0, 1);
        int[][] bad = {{1, 0, 0}, {-1, 0, 0}, {1, 9, 9}, {Check.MIN, 0, 0}};
        for (int[] b : bad) Check.due("get(" + b[0] + ", " + b[1] + ", " + b[2] + ")", x.get(b[0], b[1], b[2]), Check.BAD);
        for (int[] l : LACKING) {
            Check.met(x, "get(0, " + l[0] + ", " + l[1] + ")", x.findings(l[2]), x.get(0, l[0], l[1]), l[2]);
        }
        Check.due("asked() stays", x.asked(), 6);
    }

    private static void askedLatest() {
        Check.sentence("promise 20", "What the latest get(), distance(), written() that answered 1 told");
        LoopLoom x = three();
        int loop = x.loop(Check.NONE, 0, Check.number(x, 3), false);
        int act = x.act(loop, 4, 1);
        x.lay(0, 0, 1, 6);
        Check.asked(x, "get", x.get(0, 0, 1), 6);
        Check.due("distance that is NONE", x.distance(act, act, 0, true), Check.NONE);
        Check.due("distance that is BAD", x.distance(act, act, 1, true), Check.BAD);
        Check.due("distance that is UNLIKE", x.distance(act, loop, 0, true), Check.FINDING);
        Check.due("written that is NONE", x.written(1, 0), Check.NONE);
        Check.due("written that is BAD", x.written(0, 10), Check.BAD);
        Check.due("get that is NOTHING", x.get(0, 1, 0), Check.FINDING);
        Check.due("get that is BAD", x.get(1, 0, 0), Check.BAD);
        Check.due("asked() stays", x.asked(), 6);
        Check.asked(x, "written", x.written(0, 9), 4);
        x.aim(act, 0, 0, 0, 0);
        Check.asked(x, "distance", x.distance(act, act, 0, true), 3);
        Check.asked(x, "distance", x.distance(act, act, 0, false), 1);
        x.act(x.loop(Check.NONE, 0, Check.number(x, 400), false), 4, 0);
        Check.due("written that is SPENT", x.written(0, 9), Check.SPENT);
        Check.due("distance that is SPENT", x.distance(act, act, 0, true), Check.SPENT);
        Check.due("asked() stays", x.asked(), 1);
    }

    private static void askedBefore() {
        Check.sentence("promise 20", "0 before");
        LoopLoom x = three();
        Check.due("asked()", x.asked(), 0);
        x.get(0, 1, 0);
        x.get(0, 0, 2);
        x.written(0, 0);
        Check.due("asked() behind refused ones", x.asked(), 0);
    }
}
