/** Terms 2, of POCKETS, and promises 10 to 14: a test for each sentence that names a boundary. */
public final class EdgePocketsTest {
    public static void main(String[] args) {
        whatPocketsHold();
        holdAnother();
        holdNothing();
        noteOfBytes();
        noteTooLong();
        noteTooShort();
        heldKinds();
        heldSides();
        heldUnlike();
        heldNothing();
        notedBits();
        notedBeyond();
        notedOrder();
        notedTold();
        copyTakenAhead();
        copyAllOrNone();
        copyOrder();
        copyBeyond();
        Check.end();
    }

    /** LOOP 0, SIDE 1, TEST 2, ACT 3, TEST 4. */
    private static LoopLoom five() {
        LoopLoom x = new LoopLoom();
        x.loop(Check.NONE, 0, 0, false);
        x.loop(Check.NONE, 0, 0, true);
        x.test(Check.NONE, 0, 0);
        x.act(Check.NONE, 0, 0);
        x.test(Check.NONE, 0, 0);
        return x;
    }

    /** A note of so many bytes in a NODE: 1, 2, 3, .. */
    private static void count(LoopLoom x, int node, int n) {
        x.note(node, n);
        for (int i = 0; i < n; i++) x.noted(node, i, i + 1);
    }

    /** The bytes of a note, which stay. */
    private static String bytes(LoopLoom x, int node, int n) {
        StringBuilder b = new StringBuilder();
        for (int i = 0; i < n; i++) {
            int v = x.noted(node, i, 0) - 1000;
            x.noted(node, i, v);
            b.append(i == 0 ? "" : " ").append(v);
        }
        return b.toString();
    }

    private static void whatPocketsHold() {
        Check.sentence("Terms 2", "A NODE's POCKET holds nothing, another NODE, or a note of 0 .. 12 bytes");
        LoopLoom x = five();
        for (int n = 0; n < 5; n++) {
            Check.met(x, "nothing at first", 3 * n, x.held(n, 0), Check.NOTHING);
            Check.due("another NODE", x.hold(n, (n + 1) % 5), 1);
            Check.due("a note of 0 bytes", x.note(n, 0), 0);
            Check.met(x, "it has no byte 0", 2 * n, x.noted(n, 0, 1), Check.BEYOND);
            Check.due("a note of 12 bytes", x.note(n, 12), 12);
            Check.due("it has byte 11", x.noted(n, 11, 1), 1000);
            Check.met(x, "it has no byte 12", 2 * n + 1, x.noted(n, 12, 1), Check.BEYOND);
            Check.due("nothing again", x.hold(n, Check.NONE), 1);
            Check.met(x, "it holds no note", 3 * n + 1, x.noted(n, 0, 1), Check.NOTHING);
            Check.met(x, "and no NODE", 3 * n + 2, x.held(n, 0), Check.NOTHING);
        }
    }

    private static void holdAnother() {
        Check.sentence("promise 10", "A NODE's POCKET holds another NODE");
        LoopLoom x = five();
        for (int n = 0; n < 5; n++) {
            Check.due("itself", x.hold(n, n), Check.BAD);
            for (int other = 0; other < 5; other++) {
                if (other != n) Check.due("hold(" + n + ", " + other + ")", x.hold(n, other), 1);
            }
        }
        Check.due("the first holds the last", x.held(0, 2), 4);
        Check.due("the last holds one that holds it", x.hold(4, 0), 1);
        int[][] bad = {{5, 0}, {-1, 0}, {0, 5}, {0, -1}, {0, -8}, {0, -10}, {Check.MIN, 0}, {0, Check.MAX}, {5, 5}};
        for (int[] b : bad) Check.due("hold(" + b[0] + ", " + b[1] + ")", x.hold(b[0], b[1]), Check.BAD);
        Check.due("it holds what it held", x.held(0, 2), 4);
        Check.due("no FINDING", x.finding(), 0);
    }

    private static void holdNothing() {
        Check.sentence("promise 10", "(NONE: nothing): 1");
        LoopLoom x = five();
        Check.due("of one that holds nothing", x.hold(0, Check.NONE), 1);
        x.hold(0, 1);
        Check.due("of one that holds a NODE", x.hold(0, Check.NONE), 1);
        Check.met(x, "held(0, 0)", 0, x.held(0, 0), Check.NOTHING);
        x.note(0, 3);
        Check.due("of one that holds a note", x.hold(0, Check.NONE), 1);
        Check.met(x, "noted(0, 0, 0)", 1, x.noted(0, 0, 0), Check.NOTHING);
        Check.due("of no NODE", x.hold(5, Check.NONE), Check.BAD);
        Check.due("of no NODE", x.hold(Check.NONE, Check.NONE), Check.BAD);
    }

    private static void noteOfBytes() {
        Check.sentence("promise 11", "A NODE's POCKET holds a note of n bytes, all 0: n");
        LoopLoom x = five();
        count(x, 0, 12);
        Check.due("note(0, 12) anew", x.note(0, 12), 12);
        Check.same("all 0", bytes(x, 0, 12), "0 0 0 0 0 0 0 0 0 0 0 0");
        count(x, 0, 12);
        Check.due("a shorter one", x.note(0, 1), 1);
        Check.due("a longer one", x.note(0, 12), 12);
        Check.same("all 0", bytes(x, 0, 12), "0 0 0 0 0 0 0 0 0 0 0 0");
        count(x, 1, 12);
        Check.same("another NODE's is apart", bytes(x, 0, 12), "0 0 0 0 0 0 0 0 0 0 0 0");
        x.hold(1, 0);
        Check.due("in the place of a NODE", x.note(1, 12), 12);
        Check.same("all 0", bytes(x, 1, 12), "0 0 0 0 0 0 0 0 0 0 0 0");
    }

    private static void noteTooLong() {
        Check.sentence("promise 11", "BAD: also n above 12");
        LoopLoom x = five();
        count(x, 0, 3);
        int[][] bad = {{0, 13}, {0, Check.MAX}, {5, 1}, {-1, 1}, {5, -1}, {-9, 0}};
        for (int[] b : bad) Check.due("note(" + b[0] + ", " + b[1] + ")", x.note(b[0], b[1]), Check.BAD);
        Check.due("12", x.note(1, 12), 12);
        Check.same("the note stays", bytes(x, 0, 3), "1 2 3");
        Check.due("no FINDING", x.finding(), 0);
    }

    private static void noteTooShort() {
        Check.sentence("promise 11", "SIZE: n below 0");
        LoopLoom x = five();
        count(x, 0, 3);
        Check.met(x, "-1", 0, x.note(0, -1), Check.SIZE);
        Check.met(x, "MIN", 1, x.note(0, Check.MIN), Check.SIZE);
        Check.same("the note stays", bytes(x, 0, 3), "1 2 3");
        Check.due("0", x.note(0, 0), 0);
    }

    private static void heldKinds() {
        Check.sentence("promise 12", "if that is of a KIND (0 .. 3");
        LoopLoom x = five();
        x.hold(4, 0);
        Check.due("KIND 0", x.held(4, 0), 0);
        x.hold(4, 3);
        Check.due("KIND 3", x.held(4, 3), 3);
        int[][] bad = {{4, -1}, {4, 4}, {4, Check.MIN}, {4, Check.MAX}, {5, 0}, {-1, 0}, {0, 4}};
        for (int[] b : bad) Check.due("held(" + b[0] + ", " + b[1] + ")", x.held(b[0], b[1]), Check.BAD);
        Check.due("no FINDING", x.finding(), 0);
    }

    private static void heldSides() {
        Check.sentence("promise 12", "a SIDE is a LOOP, too");
        LoopLoom x = five();
        x.hold(4, 1);
        Check.due("a SIDE as a LOOP", x.held(4, 0), 1);
        Check.due("a SIDE as a SIDE", x.held(4, 1), 1);
        x.hold(4, 0);
        Check.met(x, "a LOOP is no SIDE", 0, x.held(4, 1), Check.UNLIKE);
    }

    private static void heldUnlike() {
        Check.sentence("promise 12", "UNLIKE: a note, or of another KIND");
        LoopLoom x = five();
        boolean[][] is = {{true, false, false, false}, {true, true, false, false}, {false, false, true, false},
            {false, false, false, true}};
        int met = 0;
        for (int other = 0; other < 4; other++) {
            x.hold(4, other);
            for (int kind = 0; kind < 4; kind++) {
                if (is[other][kind]) continue;
                Check.met(x, "NODE " + other + " as KIND " + kind, met, x.held(4, kind), Check.UNLIKE);
                met++;
            }
        }
        x.note(4, 0);
        for (int kind = 0; kind < 4; kind++) Check.met(x, "a note", met + kind, x.held(4, kind), Check.UNLIKE);
    }

    private static void heldNothing() {
        Check.sentence("promise 12", "NOTHING");
        LoopLoom x = five();
        for (int kind = 0; kind < 4; kind++) Check.met(x, "nothing", kind, x.held(4, kind), Check.NOTHING);
    }

    private static void notedBits() {
        Check.sentence("promise 13", "Byte i of a note is v (its lowest 8 bits): what it was");
        LoopLoom x = five();
        x.note(0, 2);
        int[] values = {127, 128, 255, 256, 257, -1, -128, -129, Check.MAX, Check.MIN, 0};
        int before = 0;
        for (int v : values) {
            Check.due("noted(0, 1, " + v + ")", x.noted(0, 1, v), 1000 + before);
            before = (byte) v;
        }
        Check.due("byte 0 stays", x.noted(0, 0, 0), 1000);
    }

    private static void notedBeyond() {
        Check.sentence("promise 13", "BEYOND");
        LoopLoom x = five();
        x.note(0, 3);
        int[] beyond = {-1, 3, 12, Check.MIN, Check.MAX};
        for (int k = 0; k < beyond.length; k++) {
            Check.met(x, "noted(0, " + beyond[k] + ", 1)", k, x.noted(0, beyond[k], 1), Check.BEYOND);
        }
        Check.due("the first byte", x.noted(0, 0, 1), 1000);
        Check.due("the last byte", x.noted(0, 2, 1), 1000);
        x.note(0, 0);
        Check.met(x, "an empty note has none", 5, x.noted(0, 0, 1), Check.BEYOND);
    }

    private static void notedOrder() {
        Check.sentence("promise 13", "BAD: the NODE; NOTHING; UNLIKE: it holds a NODE");
        LoopLoom x = five();
        Check.due("noted(5, 99, 1)", x.noted(5, 99, 1), Check.BAD);
        Check.due("noted(-1, 0, 1)", x.noted(-1, 0, 1), Check.BAD);
        Check.met(x, "nothing, ahead of the byte", 0, x.noted(0, 99, 1), Check.NOTHING);
        x.hold(0, 1);
        Check.met(x, "a NODE, ahead of the byte", 0, x.noted(0, 99, 1), Check.UNLIKE);
        Check.due("it holds that still", x.held(0, 1), 1);
    }

    private static void notedTold() {
        Check.sentence("promise 13", "(A byte is told as -128 .. 127 and 1000 more.)");
        LoopLoom x = five();
        x.note(0, 1);
        x.noted(0, 0, 127);
        Check.due("127", x.noted(0, 0, -128), 1127);
        Check.due("-128", x.noted(0, 0, 0), 872);
        Check.due("0", x.noted(0, 0, 0), 1000);
    }

    private static void copyTakenAhead() {
        Check.sentence("promise 14", "n bytes .. come to those of another NODE's (or its own) from one on, as if taken ahead");
        LoopLoom x = five();
        count(x, 0, 12);
        Check.due("onto itself, 1 behind", x.copy(0, 0, 0, 1, 11), 1);
        Check.same("bytes", bytes(x, 0, 12), "1 1 2 3 4 5 6 7 8 9 10 11");
        count(x, 0, 12);
        Check.due("onto itself, 1 ahead", x.copy(0, 1, 0, 0, 11), 1);
        Check.same("bytes", bytes(x, 0, 12), "2 3 4 5 6 7 8 9 10 11 12 12");
        count(x, 0, 5);
        Check.due("all onto itself", x.copy(0, 0, 0, 0, 5), 1);
        Check.same("bytes", bytes(x, 0, 5), "1 2 3 4 5");
        count(x, 1, 3);
        Check.due("the last of one to the first of another", x.copy(0, 4, 1, 0, 1), 1);
        Check.same("bytes", bytes(x, 1, 3), "5 2 3");
        Check.due("all of one to another", x.copy(1, 0, 0, 2, 3), 1);
        Check.same("bytes", bytes(x, 0, 5), "1 2 5 2 3");
        Check.same("the first stays", bytes(x, 1, 3), "5 2 3");
    }

    private static void copyAllOrNone() {
        Check.sentence("promise 14", "all or none: 1");
        LoopLoom x = five();
        count(x, 0, 5);
        x.note(1, 3);
        Check.met(x, "4 bytes to 3", 0, x.copy(0, 0, 1, 0, 4), Check.BEYOND);
        Check.same("none came", bytes(x, 1, 3), "0 0 0");
        Check.met(x, "2 bytes to the last one", 1, x.copy(0, 0, 1, 2, 2), Check.BEYOND);
        Check.met(x, "2 bytes from the last one on", 2, x.copy(0, 4, 1, 0, 2), Check.BEYOND);
        Check.same("none came", bytes(x, 1, 3), "0 0 0");
        Check.due("3 bytes to 3", x.copy(0, 0, 1, 0, 3), 1);
        Check.same("all came", bytes(x, 1, 3), "1 2 3");
        Check.due("0 bytes", x.copy(0, 3, 1, 1, 0), 1);
        Check.same("none is changed", bytes(x, 1, 3), "1 2 3");
    }

    private static void copyOrder() {
        Check.sentence("promise 14", "BAD: NODES; UNLIKE: a NODE is held by the first, by the other; NOTHING: the first, or the other, holds nothing");
        LoopLoom x = five();
        x.hold(0, 1);
        x.note(2, 3);
        int[][] bad = {{5, 0}, {0, 5}, {-1, 4}, {4, -1}, {Check.NONE, 2}};
        for (int[] b : bad) Check.due("copy(" + b[0] + ", 0, " + b[1] + ", 0, 9)", x.copy(b[0], 0, b[1], 0, 9), Check.BAD);
        int[][] unlike = {{0, 2}, {2, 0}, {0, 4}, {4, 0}, {0, 0}};
        for (int k = 0; k < unlike.length; k++) {
            Check.met(x, "UNLIKE " + k, k, x.copy(unlike[k][0], 0, unlike[k][1], 0, 9), Check.UNLIKE);
        }
        int[][] nothing = {{4, 2}, {2, 4}, {4, 4}, {4, 3}};
        for (int k = 0; k < nothing.length; k++) {
            Check.met(x, "NOTHING " + k, k, x.copy(nothing[k][0], 0, nothing[k][1], 0, 9), Check.NOTHING);
        }
        Check.met(x, "then BEYOND", 0, x.copy(2, 0, 2, 0, 9), Check.BEYOND);
    }

    private static void copyBeyond() {
        Check.sentence("promise 14", "BEYOND: not so many there (a place, n below 0, too)");
        LoopLoom x = five();
        count(x, 0, 5);
        count(x, 1, 3);
        int[][] beyond = {{-1, 0, 1}, {0, -1, 1}, {0, 0, -1}, {5, 0, 1}, {0, 3, 1}, {6, 0, 0}, {0, 4, 0}, {-1, 0, 0},
            {0, -1, 0}, {4, 0, 2}, {0, 2, 2}, {5, 3, -1}, {Check.MAX, 0, 1}, {0, Check.MAX, Check.MAX},
            {1, 0, Check.MAX}, {Check.MIN, 0, 1}, {0, Check.MIN, Check.MIN}, {0, 0, Check.MIN}};
        for (int k = 0; k < beyond.length; k++) {
            int[] b = beyond[k];
            String call = "copy(0, " + b[0] + ", 1, " + b[1] + ", " + b[2] + ")";
            Check.met(x, call, k, x.copy(0, b[0], 1, b[1], b[2]), Check.BEYOND);
        }
        Check.due("none, at both ends", x.copy(0, 5, 1, 3, 0), 1);
        Check.due("one, the last ones", x.copy(0, 4, 1, 2, 1), 1);
        Check.same("bytes", bytes(x, 1, 3), "1 2 5");
        x.note(2, 0);
        Check.due("none of an empty note", x.copy(2, 0, 2, 0, 0), 1);
        Check.met(x, "one of it", beyond.length, x.copy(2, 0, 0, 0, 1), Check.BEYOND);
        Check.met(x, "one to it", beyond.length + 1, x.copy(0, 0, 2, 0, 1), Check.BEYOND);
    }
}
