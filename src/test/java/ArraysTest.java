/** Promises 15 to 20. */
public final class ArraysTest {
    public static void main(String[] args) {
        array();
        row();
        tear();
        lay();
        get();
        asked();
        Check.end();
    }

    private static void array() {
        Check.promise(15);
        LoopLoom x = new LoopLoom();
        Check.due("array(4, 1)", x.array(4, 1), Check.BAD);
        Check.due("array(-1, -1)", x.array(-1, -1), Check.BAD);
        Check.due("array(0, 21)", x.array(0, 21), Check.BAD);
        Check.due("array(0, MAX)", x.array(0, Check.MAX), Check.BAD);
        Check.met(x, "array(0, -1)", 0, x.array(0, -1), Check.SIZE);
        Check.met(x, "array(0, MIN)", 1, x.array(0, Check.MIN), Check.SIZE);
        Check.due("count(3)", x.count(3), 0);
        for (int k = 0; k < 8; k++) Check.due("array", x.array(k % 4, k % 2 == 0 ? 20 : 0), k);
        Check.due("FULL ahead of SIZE", x.array(0, -1), Check.FULL);
        Check.due("BAD ahead of FULL", x.array(0, 21), Check.BAD);
        Check.due("count(3)", x.count(3), 8);
        Check.met(x, "all missing at first", 0, x.get(0, 19, 0), Check.NOTHING);
        Check.met(x, "no rows", 0, x.get(1, 0, 0), Check.BEYOND);
    }

    private static void row() {
        Check.promise(16);
        LoopLoom x = new LoopLoom();
        x.array(3, 2);
        Check.due("row(0, 1, 20)", x.row(0, 1, 20), 20);
        Check.due("row(0, 0, 0)", x.row(0, 0, 0), 0);
        Check.due("lay(0, 1, 19, 5)", x.lay(0, 1, 19, 5), 1);
        Check.due("row(0, 1, 21)", x.row(0, 1, 21), Check.BAD);
        Check.due("row(1, 0, 1)", x.row(1, 0, 1), Check.BAD);
        Check.due("row(-1, 0, 1)", x.row(-1, 0, 1), Check.BAD);
        Check.due("BAD ahead of BEYOND", x.row(0, 2, 21), Check.BAD);
        Check.met(x, "row(0, 2, 1)", 0, x.row(0, 2, 1), Check.BEYOND);
        Check.met(x, "row(0, -1, 1)", 1, x.row(0, -1, 1), Check.BEYOND);
        Check.met(x, "BEYOND ahead of SIZE", 2, x.row(0, 2, -1), Check.BEYOND);
        Check.met(x, "row(0, 1, -1)", 0, x.row(0, 1, -1), Check.SIZE);
        Check.due("it is as it was", Check.at(x, 0, 1, 19), 5);
        Check.due("row(0, 1, 20)", x.row(0, 1, 20), 20);
        Check.due("all 0", Check.at(x, 0, 1, 19), 0);
        x.lay(0, 1, 4, 6);
        x.row(0, 1, 3);
        x.row(0, 1, 5);
        Check.due("all 0 of a row that was longer once", Check.at(x, 0, 1, 4), 0);
        x.row(0, 1, 3);
        Check.met(x, "get(0, 1, 3)", 3, x.get(0, 1, 3), Check.BEYOND);
    }

    private static void tear() {
        Check.promise(17);
        LoopLoom x = new LoopLoom();
        x.array(0, 2);
        x.row(0, 0, 1);
        x.lay(0, 0, 0, 9);
        Check.due("tear(0, 0)", x.tear(0, 0), 1);
        Check.met(x, "get(0, 0, 0)", 0, x.get(0, 0, 0), Check.NOTHING);
        Check.due("one that is missing", x.tear(0, 1), 1);
        Check.met(x, "tear(0, 2)", 0, x.tear(0, 2), Check.BEYOND);
        Check.met(x, "tear(0, -1)", 1, x.tear(0, -1), Check.BEYOND);
        Check.due("tear(1, 0)", x.tear(1, 0), Check.BAD);
        Check.due("tear(-9, 0)", x.tear(-9, 0), Check.BAD);
        x.row(0, 0, 1);
        Check.due("anew", Check.at(x, 0, 0, 0), 0);
    }

    private static void lay() {
        Check.promise(18);
        long[] values = {0, 127, 128, -129, 32768, 0x80000000L, Long.MAX_VALUE, Long.MIN_VALUE, -1};
        LoopLoom x = new LoopLoom();
        for (int kind = 0; kind < 4; kind++) {
            Check.square(x, kind, 2);
            for (long v : values) {
                Check.due("lay(" + kind + ", 1, 0, " + v + ")", x.lay(kind, 1, 0, v), 1);
                long cut = kind == 0 ? (byte) v : kind == 1 ? (short) v : kind == 2 ? (int) v : v;
                Check.due("cut to kind " + kind, Check.at(x, kind, 1, 0), cut);
            }
        }
        x.tear(0, 1);
        Check.due("lay(4, ..)", x.lay(4, 0, 0, 1), Check.BAD);
        Check.due("lay(-1, ..)", x.lay(-1, 0, 0, 1), Check.BAD);
        Check.met(x, "no such row", 0, x.lay(0, 2, 0, 1), Check.BEYOND);
        Check.met(x, "no such row", 1, x.lay(0, -1, 5, 1), Check.BEYOND);
        Check.met(x, "missing, ahead of the place", 0, x.lay(0, 1, 5, 1), Check.NOTHING);
        Check.met(x, "no such place", 2, x.lay(0, 0, 2, 1), Check.BEYOND);
        Check.met(x, "no such place", 3, x.lay(0, 0, -1, 1), Check.BEYOND);
    }

    private static void get() {
        Check.promise(19);
        LoopLoom x = new LoopLoom();
        Check.square(x, 3, 2);
        x.lay(0, 1, 0, 77L << 40);
        Check.asked(x, "get(0, 1, 0)", x.get(0, 1, 0), 77L << 40);
        Check.asked(x, "get(0, 0, 1)", x.get(0, 0, 1), 0);
        x.tear(0, 0);
        Check.due("get(1, 0, 0)", x.get(1, 0, 0), Check.BAD);
        Check.met(x, "get(0, 2, 0)", 0, x.get(0, 2, 0), Check.BEYOND);
        Check.met(x, "get(0, 0, 9)", 0, x.get(0, 0, 9), Check.NOTHING);
        Check.met(x, "get(0, 1, 2)", 1, x.get(0, 1, 2), Check.BEYOND);
        Check.met(x, "get(0, MIN, MAX)", 2, x.get(0, Check.MIN, Check.MAX), Check.BEYOND);
    }

    private static void asked() {
        Check.promise(20);
        LoopLoom x = new LoopLoom();
        Check.due("asked()", x.asked(), 0);
        Check.square(x, 2, 3);
        x.lay(0, 2, 1, -8);
        Check.asked(x, "get(0, 2, 1)", x.get(0, 2, 1), -8);
        x.get(0, 3, 0);
        x.get(9, 0, 0);
        x.written(0, 0);
        x.written(0, 10);
        Check.due("refused ones and NONE leave it", x.asked(), -8);
        int loop = x.loop(Check.NONE, 0, Check.number(x, 2), false);
        int act = x.act(loop, 4, 1);
        x.distance(act, act, 0, true);
        Check.due("distance() that is NONE", x.asked(), -8);
        x.aim(act, 0, 0, 0, 0);
        Check.asked(x, "distance()", x.distance(act, act, 0, true), 2);
        Check.asked(x, "written()", x.written(0, 9), 3);
        x.run(false);
        x.lay(0, 0, 0, 5);
        Check.due("other calls leave it", x.asked(), 3);
    }
}
