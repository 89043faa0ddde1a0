/** Objects in states that refused calls are made in. */
final class Recipes {
    /** In rich() and spent(): the ACT in four LOOPS. */
    static final int INNER_ACT = 5;

    private Recipes() { }

    static LoopLoom fresh() {
        return new LoopLoom();
    }

    /**
     * LOOP 0 { SIDE 1 { TEST 2 { LOOP 3 { LOOP 4 { ACT 5 } } } } ACT 6 LOOP 7 { } } LOOP 8 { ACT 9 },
     * with all that can be kept: POCKETS of all sorts, a draft of eight terms, TURNS, a run that was ended.
     */
    static LoopLoom rich() {
        LoopLoom x = new LoopLoom();
        sizesAndSums(x);
        nest(x);
        x.loop(Check.NONE, 0, 2, false);
        x.act(8, 5, 3);
        arraysAndAims(x);
        pockets(x);
        turns(x);
        kept(x);
        return x;
    }

    /** As rich(), but 401 turns and VISITS more. */
    static LoopLoom spent() {
        LoopLoom x = new LoopLoom();
        sizesAndSums(x);
        nest(x);
        x.loop(Check.NONE, 3, 2, false);
        x.act(8, 5, 3);
        arraysAndAims(x);
        turns(x);
        kept(x);
        return x;
    }

    /** SUMS: 1, 2 and 3 the numbers 1, 2 and -398; 4 and 5 LETTERS 0 and 3. */
    private static void sizesAndSums(LoopLoom x) {
        x.size(0, 2);
        x.size(1, -3);
        x.size(2, 4);
        Check.number(x, 1);
        Check.number(x, 2);
        Check.number(x, -398);
        Check.letter(x, 0);
        Check.letter(x, 3);
    }

    private static void nest(LoopLoom x) {
        x.loop(Check.NONE, 0, 2, false);
        x.loop(0, 1, 1, true);
        x.test(1, 4, 2);
        x.loop(2, 2, 2, false);
        x.loop(3, 0, 1, false);
        x.act(4, 1, 0);
        x.act(0, 5, 7);
        x.loop(0, 0, 0, false);
    }

    /** Row 1 of ARRAY 0 is missing; ARRAY 1 is of bytes. */
    private static void arraysAndAims(LoopLoom x) {
        x.array(2, 3);
        x.row(0, 0, 20);
        x.row(0, 2, 3);
        x.array(0, 1);
        x.row(1, 0, 3);
        x.lay(1, 0, 2, -100);
        x.aim(INNER_ACT, 0, 0, 0, 4);
        x.aim(INNER_ACT, 1, 0, 0, 5);
        x.aim(INNER_ACT, 2, 1, 0, 2);
        x.aim(6, 0, 1, 0, 4);
        x.aim(6, 1, 0, 0, 4);
        x.aim(9, 0, 0, 2, 4);
    }

    private static void pockets(LoopLoom x) {
        x.hold(0, 3);
        x.note(1, 3);
        x.noted(1, 0, 5);
        x.noted(1, 2, -6);
        x.note(3, 0);
        x.note(4, 12);
        x.noted(4, 11, 9);
    }

    private static void turns(LoopLoom x) {
        x.swap(0, 3);
        x.lean(0, 1, 3);
        x.shift(INNER_ACT, 2, -7);
        x.tile(1, 2, 3);
        x.part(0);
        x.back(8);
    }

    /** A run that ended by NOTHING, what was asked latest, and a draft that is 9 where ACT 5 stands at first. */
    private static void kept(LoopLoom x) {
        x.tear(0, 2);
        x.run(false);
        x.row(0, 2, 3);
        x.get(1, 0, 2);
        int[] terms = {1, -2, 4, 5, 3, 2, 1, -1};
        for (int which = 0; which < 8; which++) x.term(which, terms[which]);
    }

    /** 80 SUMS, 40 NODES, 12 ACTS, 8 ARRAYS, 20 TURNS; ACT 4 has 16 ROWS, and one number in them is 100000. */
    static LoopLoom full() {
        LoopLoom x = new LoopLoom();
        x.array(2, 1);
        x.row(0, 0, 20);
        for (int a = 1; a < 8; a++) x.array(a % 4, 0);
        int parent = Check.NONE;
        for (int d = 0; d < 4; d++) parent = x.loop(parent, 0, 0, d % 2 == 1);
        for (int a = 0; a < 12; a++) x.act(a == 1 ? Check.NONE : parent, 4, a);
        while (x.count(1) < 40) x.test(Check.NONE, 0, 0);
        for (int s = 1; s < 80; s++) Check.number(x, s);
        x.aim(4, 0, 0, 0, 0);
        x.aim(INNER_ACT, 0, 0, 0, 2);
        x.shift(4, 1, 400);
        for (int k = 0; k < 12; k++) x.lean(0, 1, 20);
        x.lean(0, 1, 10);
        x.tile(0, 4, 2);
        for (int k = 0; k < 3; k++) x.tile(3, 1, 2);
        for (int k = 0; k < 5; k++) x.back(3);
        return x;
    }

    /** 12 ACTS and 17 NODES; no TURN. */
    static LoopLoom acts() {
        LoopLoom x = new LoopLoom();
        x.array(3, 1);
        x.row(0, 0, 4);
        for (int n = 0; n < 5; n++) x.test(Check.NONE, 0, 0);
        for (int a = 0; a < 12; a++) x.aim(x.act(a % 5, 4, a), 0, 0, 0, 0);
        return x;
    }

    /** LOOP 0 over 0 .. 5, whose ACT 1 counts at one place; tiles there and back, which are not ALLOWED. */
    static LoopLoom crossed() {
        LoopLoom x = new LoopLoom();
        x.array(3, 1);
        x.row(0, 0, 4);
        x.loop(Check.NONE, 0, Check.number(x, 5), false);
        x.act(0, 5, 1);
        x.aim(1, 0, 0, 0, 0);
        x.aim(1, 1, 0, 0, 0);
        x.tile(0, 1, 2);
        x.back(0);
        x.tile(0, 1, 3);
        return x;
    }

    /** LOOP 0 with ACTS 1 and 2; the ROW ahead of the LOOP ROW is a tile's, whose number is 0 and 1000. */
    static LoopLoom tiled() {
        LoopLoom x = new LoopLoom();
        x.loop(Check.NONE, 0, Check.number(x, 2), false);
        x.act(0, 4, 1);
        x.act(0, 4, 2);
        x.shift(2, 0, 400);
        x.shift(2, 0, 400);
        x.shift(2, 0, 200);
        x.tile(0, 1, 2);
        return x;
    }

    /** An ACT that reads a row that is missing. */
    static LoopLoom torn() {
        LoopLoom x = new LoopLoom();
        x.array(3, 1);
        x.act(Check.NONE, 0, 0);
        x.aim(0, 1, 0, 0, 0);
        return x;
    }
}
