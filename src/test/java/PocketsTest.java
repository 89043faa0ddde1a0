/** Promises 10 to 14. */
public final class PocketsTest {
    public static void main(String[] args) {
        hold();
        note();
        held();
        noted();
        copy();
        Check.end();
    }

    /** A LOOP 0, a SIDE 1, a TEST 2, an ACT 3. */
    private static LoopLoom four() {
        LoopLoom x = new LoopLoom();
        x.loop(Check.NONE, 0, 0, false);
        x.loop(Check.NONE, 0, 0, true);
        x.test(Check.NONE, 0, 0);
        x.act(Check.NONE, 0, 0);
        return x;
    }

    private static void hold() {
        Check.promise(10);
        LoopLoom x = four();
        Check.due("hold(0, 3)", x.hold(0, 3), 1);
        Check.due("hold(3, 0)", x.hold(3, 0), 1);
        Check.due("held(0, 3)", x.held(0, 3), 3);
        Check.due("hold(0, 2)", x.hold(0, 2), 1);
        Check.due("held(0, 2)", x.held(0, 2), 2);
        int[][] bad = {{0, 0}, {-1, 0}, {4, 0}, {0, 4}, {0, -1}, {0, -8}, {Check.NONE, Check.NONE}, {4, Check.NONE}};
        for (int[] b : bad) Check.due("hold(" + b[0] + ", " + b[1] + ")", x.hold(b[0], b[1]), Check.BAD);
        Check.due("held(0, 2) still", x.held(0, 2), 2);
        Check.due("hold(0, NONE)", x.hold(0, Check.NONE), 1);
        Check.met(x, "held(0, 2)", 0, x.held(0, 2), Check.NOTHING);
        x.note(1, 3);
        Check.due("a note gives way", x.hold(1, 0), 1);
        Check.due("held(1, 0)", x.held(1, 0), 0);
        Check.due("the digest knows no POCKETS", x.digest(), four().digest());
    }

    private static void note() {
        Check.promise(11);
        LoopLoom x = four();
        Check.due("note(0, 0)", x.note(0, 0), 0);
        Check.met(x, "noted(0, 0, 1)", 0, x.noted(0, 0, 1), Check.BEYOND);
        Check.due("note(0, 12)", x.note(0, 12), 12);
        Check.due("noted(0, 11, 5)", x.noted(0, 11, 5), 1000);
        Check.due("note(0, 13)", x.note(0, 13), Check.BAD);
        Check.due("note(-1, 1)", x.note(-1, 1), Check.BAD);
        Check.due("note(4, -1)", x.note(4, -1), Check.BAD);
        Check.due("note(0, MAX)", x.note(0, Check.MAX), Check.BAD);
        Check.met(x, "note(0, -1)", 0, x.note(0, -1), Check.SIZE);
        Check.met(x, "note(0, MIN)", 1, x.note(0, Check.MIN), Check.SIZE);
        Check.due("it is as it was", x.noted(0, 11, 5), 1005);
        Check.due("note(0, 12) anew", x.note(0, 12), 12);
        Check.due("all 0", x.noted(0, 11, 0), 1000);
        x.hold(1, 0);
        Check.due("a NODE gives way", x.note(1, 1), 1);
        Check.due("noted(1, 0, 0)", x.noted(1, 0, 0), 1000);
    }

    private static void held() {
        Check.promise(12);
        LoopLoom x = four();
        boolean[][] fits = {{true, false, false, false}, {true, true, false, false}, {false, false, true, false},
            {false, false, false, true}};
        for (int other = 0; other < 4; other++) {
            int n = (other + 1) % 4;
            x.hold(n, other);
            for (int kind = 0; kind < 4; kind++) {
                int before = x.findings(Check.UNLIKE);
                int got = x.held(n, kind);
                if (fits[other][kind]) {
                    Check.due("held", got, other);
                } else {
                    Check.met(x, "held of another KIND", before, got, Check.UNLIKE);
                }
            }
            x.hold(n, Check.NONE);
        }
        x.note(0, 1);
        Check.met(x, "a note", x.findings(Check.UNLIKE), x.held(0, 0), Check.UNLIKE);
        Check.met(x, "nothing", 0, x.held(1, 0), Check.NOTHING);
        int[][] bad = {{-1, 0}, {4, 0}, {0, -1}, {0, 4}, {1, 4}, {Check.MAX, Check.MAX}};
        for (int[] b : bad) Check.due("held(" + b[0] + ", " + b[1] + ")", x.held(b[0], b[1]), Check.BAD);
    }

    private static void noted() {
        Check.promise(13);
        LoopLoom x = four();
        Check.met(x, "noted of nothing", 0, x.noted(0, 0, 0), Check.NOTHING);
        x.hold(0, 1);
        Check.met(x, "noted of a NODE", 0, x.noted(0, 0, 0), Check.UNLIKE);
        x.note(0, 3);
        Check.due("noted(0, 0, 127)", x.noted(0, 0, 127), 1000);
        Check.due("noted(0, 0, 128)", x.noted(0, 0, 128), 1127);
        Check.due("noted(0, 0, -1)", x.noted(0, 0, -1), 872);
        Check.due("noted(0, 0, 0x1234)", x.noted(0, 0, 0x1234), 999);
        Check.due("noted(0, 0, 0)", x.noted(0, 0, 0), 1000 + 0x34);
        Check.met(x, "noted(0, 3, 1)", 0, x.noted(0, 3, 1), Check.BEYOND);
        Check.met(x, "noted(0, -1, 1)", 1, x.noted(0, -1, 1), Check.BEYOND);
        Check.met(x, "noted(0, MAX, 1)", 2, x.noted(0, Check.MAX, 1), Check.BEYOND);
        Check.due("noted(-1, 0, 0)", x.noted(-1, 0, 0), Check.BAD);
        Check.due("noted(4, 0, 0)", x.noted(4, 0, 0), Check.BAD);
        x.note(1, 12);
        Check.due("notes are apart", x.noted(1, 0, 9), 1000);
        Check.due("notes are apart", x.noted(0, 0, 0), 1000);
    }

    private static String bytes(LoopLoom x, int node, int n) {
        StringBuilder b = new StringBuilder();
        for (int i = 0; i < n; i++) {
            int v = x.noted(node, i, 0) - 1000;
            x.noted(node, i, v);
            b.append(v).append(' ');
        }
        return b.toString();
    }

    private static void copy() {
        Check.promise(14);
        LoopLoom x = four();
        x.note(0, 5);
        x.note(1, 3);
        for (int i = 0; i < 5; i++) x.noted(0, i, i + 1);
        Check.due("copy(0, 1, 1, 0, 3)", x.copy(0, 1, 1, 0, 3), 1);
        Check.same("the other", bytes(x, 1, 3), "2 3 4 ");
        Check.due("onto itself, behind", x.copy(0, 0, 0, 1, 4), 1);
        Check.same("as if taken ahead", bytes(x, 0, 5), "1 1 2 3 4 ");
        Check.due("onto itself, ahead", x.copy(0, 1, 0, 0, 4), 1);
        Check.same("as if taken ahead", bytes(x, 0, 5), "1 2 3 4 4 ");
        Check.due("nothing at the end", x.copy(0, 5, 1, 3, 0), 1);
        int[][] beyond = {{0, 6, 1, 0, 0}, {0, 0, 1, 4, 0}, {0, -1, 1, 0, 1}, {0, 0, 1, -1, 1}, {0, 0, 1, 0, -1},
            {0, 0, 1, 0, 4}, {0, 3, 1, 0, 3}, {0, 1, 1, 1, 3}, {0, 1, 1, 0, Check.MAX}, {0, Check.MAX, 1, 0, Check.MAX},
            {0, Check.MIN, 1, 0, Check.MIN}, {0, 5, 1, 3, -1}};
        for (int k = 0; k < beyond.length; k++) {
            int[] b = beyond[k];
            Check.met(x, "copy BEYOND " + k, k, x.copy(b[0], b[1], b[2], b[3], b[4]), Check.BEYOND);
        }
        Check.same("all or none", bytes(x, 1, 3), "2 3 4 ");
        Check.met(x, "the first holds nothing", 0, x.copy(2, 9, 0, 9, 9), Check.NOTHING);
        Check.met(x, "the other holds nothing", 1, x.copy(0, 9, 2, 9, 9), Check.NOTHING);
        x.hold(3, 0);
        Check.met(x, "UNLIKE: the other", 0, x.copy(0, 0, 3, 0, 1), Check.UNLIKE);
        Check.met(x, "UNLIKE: the first", 1, x.copy(3, 0, 0, 0, 1), Check.UNLIKE);
        Check.met(x, "UNLIKE ahead of NOTHING", 2, x.copy(2, 0, 3, 0, 1), Check.UNLIKE);
        Check.due("copy(-1, ..)", x.copy(-1, 0, 0, 0, 1), Check.BAD);
        Check.due("copy(.., 4, ..)", x.copy(3, 0, 4, 0, 1), Check.BAD);
    }
}
