/** What the tests share: answers that are due, and short ways to build programs. */
final class Check {
    static final int NONE = LoopLoom.NONE, BAD = LoopLoom.BAD, FULL = LoopLoom.FULL, STATE = LoopLoom.STATE;
    static final int SPENT = LoopLoom.SPENT, FINDING = LoopLoom.FINDING;
    static final int NOTHING = 1, BEYOND = 2, UNLIKE = 3, NOUGHT = 4, SIZE = 5;
    static final int MIN = Integer.MIN_VALUE, MAX = Integer.MAX_VALUE;

    private static int wrong = 0;
    private static int seen = 0;
    private static int sentences = 0;
    private static String label = "";

    private Check() { }

    static void promise(int number) {
        label = "promise " + number;
    }

    /** What follows is the test of one sentence of the document, up to the next one. */
    static void sentence(String where, String words) {
        sentences++;
        label = where + ", '" + words + "'";
    }

    static void due(String call, long got, long want) {
        seen++;
        if (got == want) return;
        wrong++;
        System.out.println(label + ": " + call + " answered " + got + ", due is " + want);
    }

    /** A call that met a FINDING: the answer, which one it was, and that it was counted once. */
    static void met(LoopLoom x, String call, int before, int got, int finding) {
        due(call, got, FINDING);
        due(call + ", then finding()", x.finding(), finding);
        due(call + ", then findings(" + finding + ")", x.findings(finding), before + 1);
    }

    static void asked(LoopLoom x, String call, int got, long want) {
        due(call, got, 1);
        due(call + ", then asked()", x.asked(), want);
    }

    static void end() {
        String of = sentences > 0 ? " to " + sentences + " sentences" : "";
        System.out.println(seen + " answers" + of + ", " + wrong + " not as due");
        if (wrong != 0) System.exit(1);
    }

    /** A SUM of pairs: which term, how much. */
    static int sum(LoopLoom x, int... pairs) {
        for (int i = 0; i < pairs.length; i += 2) x.term(pairs[i], pairs[i + 1]);
        return x.sum();
    }

    static int number(LoopLoom x, int v) {
        return sum(x, 0, v);
    }

    static int letter(LoopLoom x, int d) {
        return sum(x, 4 + d, 1);
    }

    /** An ARRAY of n rows of n places. */
    static int square(LoopLoom x, int kind, int n) {
        int array = x.array(kind, n);
        for (int i = 0; i < n; i++) x.row(array, i, n);
        return array;
    }

    static long at(LoopLoom x, int array, int i, int j) {
        due("get(" + array + ", " + i + ", " + j + ")", x.get(array, i, j), 1);
        return x.asked();
    }

    /** The VISITS in an order as text, "act:letters act:letters ..", with so many letters. */
    static String told(LoopLoom x, boolean fresh, int letters) {
        StringBuilder b = new StringBuilder();
        for (int i = 0; i < x.visits(); i++) {
            if (i > 0) b.append(' ');
            b.append(x.visit(i, 0, fresh)).append(':');
            for (int d = 0; d < letters; d++) b.append(d == 0 ? "" : ",").append(x.visit(i, 1 + d, fresh) - 100000);
        }
        return b.toString();
    }

    static void same(String call, String got, String want) {
        due(call + " is '" + got + "', due is '" + want + "': alike", got.equals(want) ? 1 : 0, 1);
    }

    /** A ROW as text: number, four letters, width, letter. */
    static String rowOf(LoopLoom x, int act, int i) {
        StringBuilder b = new StringBuilder();
        for (int what = 0; what < 7; what++) {
            b.append(what == 0 ? "" : " ").append(x.order(act, i, what) - (what < 5 ? 1000000 : 0));
        }
        return b.toString();
    }
}
