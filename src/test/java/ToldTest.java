/** Promises 46 to 49. */
public final class ToldTest {
    public static void main(String[] args) {
        count();
        finding();
        findings();
        digest();
        Check.end();
    }

    private static void count() {
        Check.promise(46);
        LoopLoom x = new LoopLoom();
        x.sum();
        x.sum();
        x.loop(Check.NONE, 0, 0, false);
        x.test(0, 0, 0);
        x.act(1, 0, 0);
        x.act(0, 0, 0);
        x.array(0, 1);
        x.back(0);
        int[] want = {3, 4, 2, 1, 1};
        for (int what = 0; what < 5; what++) Check.due("count(" + what + ")", x.count(what), want[what]);
        Check.due("count(5)", x.count(5), Check.BAD);
        Check.due("count(-1)", x.count(-1), Check.BAD);
        Check.due("count(MIN)", x.count(Check.MIN), Check.BAD);
    }

    private static void finding() {
        Check.promise(47);
        LoopLoom x = new LoopLoom();
        Check.due("before any", x.finding(), 0);
        x.array(0, -1);
        Check.due("SIZE", x.finding(), Check.SIZE);
        x.array(0, 1);
        x.array(9, 9);
        Check.due("stays behind what is done, and BAD", x.finding(), Check.SIZE);
        x.get(0, 0, 0);
        Check.due("NOTHING", x.finding(), Check.NOTHING);
        x.get(0, 1, 0);
        Check.due("BEYOND", x.finding(), Check.BEYOND);
        x.act(Check.NONE, 3, 0);
        x.run(false);
        Check.due("NOUGHT", x.finding(), Check.NOUGHT);
        x.back(0);
        Check.due("UNLIKE", x.finding(), Check.UNLIKE);
        x.undo();
        Check.due("STATE is none", x.finding(), Check.UNLIKE);
    }

    private static void findings() {
        Check.promise(48);
        LoopLoom x = new LoopLoom();
        x.array(0, 1);
        for (int k = 0; k < 3; k++) x.get(0, 0, 0);
        for (int k = 0; k < 2; k++) x.get(0, 1, 0);
        x.row(0, 0, -1);
        int[] want = {3, 2, 0, 0, 1};
        for (int f = 1; f <= 5; f++) Check.due("findings(" + f + ")", x.findings(f), want[f - 1]);
        Check.due("findings(0)", x.findings(0), Check.BAD);
        Check.due("findings(6)", x.findings(6), Check.BAD);
        Check.due("findings(MAX)", x.findings(Check.MAX), Check.BAD);
        Check.due("findings(MIN)", x.findings(Check.MIN), Check.BAD);
    }

    private static long mixed(long... values) {
        long h = 17;
        for (long v : values) h = 31 * h + v;
        return h;
    }

    private static void digest() {
        Check.promise(49);
        LoopLoom x = new LoopLoom();
        Check.due("empty", x.digest(), mixed(0, 0, 0));
        x.size(0, 7);
        x.size(1, -3);
        x.size(2, 400);
        Check.due("SIZES", x.digest(), mixed(7, -3, 400));
        int two = Check.number(x, 2);
        x.loop(Check.NONE, 0, two, true);
        x.act(0, 4, -5);
        Check.due("NODES and ORDERS", x.digest(), mixed(7, -3, 400, 1, -9, 0, 0, 1, 3, 0, 1, 4, -5,
            0, 0, 0, 0, 0, 1, -9, 0, 1, 0, 0, 0, 1, 0, 1, 0, 0, 0, 0, 1, -9));
        x.array(3, 3);
        x.row(0, 0, 2);
        x.row(0, 2, 0);
        x.lay(0, 0, 1, 1L << 50);
        x.tile(0, 1, 4);
        x.back(0);
        x.array(0, 0);
        Check.due("TURNS and ARRAYS", x.digest(), mixed(7, -3, 400, 1, -9, 0, 0, 1, 3, 0, 1, 4, -5,
            0, 0, 0, 0, 0, 1, -9, 0, 1, 0, 0, 0, 4, -9, 0, -1, 0, 0, 0, 1, 0, 1, 0, 0, 0, 0, 1, -9,
            2, 0, 1L << 50, -1, 0));
        long before = x.digest();
        x.visits();
        x.allowed();
        x.hold(0, 1);
        x.term(0, 4);
        x.sum();
        x.digest();
        Check.due("asking changes nothing", x.digest(), before);
    }
}
