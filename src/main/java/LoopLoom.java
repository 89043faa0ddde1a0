import java.util.Arrays;

/**
 * A loom for loops: a program of loops, tests and acts over rows of rows, what
 * in it must come ahead of what, and new orders of its visits.
 *
 * Words in capitals are those of the document. No call throws, and after the
 * constructor only array() and the first TURNS make objects.
 */
public final class LoopLoom {
    public static final int BAD = -1, FULL = -2, FINDING = -3, STATE = -4, SPENT = -6, NONE = -9;

    private static final int NOTHING = 1, BEYOND = 2, UNLIKE = 3, NOUGHT = 4, SIZE = 5;
    private static final int LOOP = 0, SIDE = 1, TEST = 2, ACT = 3;
    private static final int BYTES = 0, SHORTS = 1, INTS = 2, LONGS = 3;
    private static final int SIZES = 3, LETTERS = 4, TERMS = 8, AIMS = 3, KINDS = 3;
    private static final int MOST_SUMS = 80, MOST_TERM = 1000, MOST_SIZE = 400;
    private static final int MOST_NODES = 40, MOST_ACTS = 12, MOST_DIVISOR = 1000, MOST_NOTE = 12;
    private static final int MOST_ARRAYS = 8, MOST_LENGTH = 20;
    private static final int MOST_VISITS = 400, MOST_LOOP_TURNS = 4000;
    private static final int MOST_ROWS = 16, ROW_CELLS = 7, WIDTH_CELL = 5, LETTER_CELL = 6;
    private static final int MOST_WIDTH = 400, MOST_ROW_NUMBER = 100000, MOST_KEPT = 20;
    private static final int MOST_PIECES = 16, MOST_TILE = 20, MOST_LEAN = 20, MOST_SHIFT = 400;
    private static final int POINT_BASE = 100000, ROW_BASE = 1000000, NOTE_BASE = 1000;
    private static final int BAD_SIZE = -1000;

    private final Sums sums;
    private final Nodes nodes;
    private final Pockets pockets;
    private final Rack[] racks;
    private int arrays;
    private final Orders orders;
    private final Body body;
    private final Touches touches;
    private final Needs needs;
    private final Weave weave;
    private final Room room;
    private long told;
    private int latest;
    private final int[] tally;
    private int endedCount;
    private int endedAct;
    private final long[] endedPoint;

    public LoopLoom() {
        sums = new Sums();
        nodes = new Nodes();
        pockets = new Pockets();
        racks = new Rack[MOST_ARRAYS];
        arrays = 0;
        orders = new Orders(nodes);
        body = new Body(sums, nodes);
        touches = new Touches(sums, nodes, body);
        needs = new Needs(nodes, body, touches);
        weave = new Weave(orders, body, touches);
        room = new Room();
        told = 0;
        latest = 0;
        tally = new int[SIZE + 1];
        endedCount = 0;
        endedAct = NONE;
        endedPoint = new long[LETTERS];
    }

    // ---- 1 sums

    public int size(int which, int v) {
        if (!within(which, 0, SIZES - 1) || !within(v, -MOST_SIZE, MOST_SIZE)) return BAD_SIZE;
        int old = sums.sizes[which];
        sums.sizes[which] = v;
        if (old != v) programChanged();
        return old;
    }

    public int term(int which, int v) {
        if (!within(which, 0, TERMS - 1) || !within(v, -MOST_TERM, MOST_TERM)) return BAD;
        sums.draft[which] = v;
        return 1;
    }

    public int sum() {
        return sums.made >= MOST_SUMS ? FULL : sums.keepDraft();
    }

    // ---- 2 nodes, arrays

    public int loop(int parent, int from, int to, boolean side) {
        if (!nodes.opens(parent)) return BAD;
        int around = nodes.loopsIn(parent);
        if (around >= LETTERS || !sums.fits(from, around) || !sums.fits(to, around)) return BAD;
        return grow(parent, side ? SIDE : LOOP, from, to);
    }

    public int test(int parent, int sum, int m) {
        if (!nodes.opens(parent) || !within(m, 0, MOST_DIVISOR)) return BAD;
        if (!sums.fits(sum, nodes.loopsIn(parent))) return BAD;
        return grow(parent, TEST, sum, m);
    }

    public int act(int parent, int sort, int k) {
        if (!nodes.opens(parent) || !within(sort, 0, 5)) return BAD;
        if (nodes.acts >= MOST_ACTS) return FULL;
        return grow(parent, ACT, sort, k);
    }

    public int aim(int act, int which, int array, int row, int place) {
        if (!nodes.known(act) || !within(which, 0, AIMS - 1) || rackOf(array) == null) return BAD;
        if (!sums.known(row) || !sums.known(place)) return BAD;
        if (!nodes.isAct(act)) return meet(UNLIKE);
        int around = nodes.loops[act];
        if (!sums.fits(row, around) || !sums.fits(place, around)) return BAD;
        nodes.setAim(nodes.actOf[act] * AIMS + which, array, row, place);
        aimsChanged();
        return 1;
    }

    public int node(int node, int what) {
        if (!nodes.known(node) || !within(what, 0, 4)) return BAD;
        return nodes.tell(node, what);
    }

    public int hold(int node, int other) {
        if (!nodes.known(node) || node == other) return BAD;
        if (other == NONE) {
            pockets.empty(node);
            return 1;
        }
        if (!nodes.known(other)) return BAD;
        pockets.putNode(node, other);
        return 1;
    }

    public int note(int node, int n) {
        if (!nodes.known(node) || n > MOST_NOTE) return BAD;
        if (n < 0) return meet(SIZE);
        pockets.putNote(node, n);
        return n;
    }

    public int held(int node, int kind) {
        if (!nodes.known(node) || !within(kind, 0, ACT)) return BAD;
        if (pockets.isNote(node)) return meet(UNLIKE);
        if (pockets.isEmpty(node)) return meet(NOTHING);
        int other = pockets.item[node];
        return nodes.isOfKind(other, kind) ? other : meet(UNLIKE);
    }

    public int noted(int node, int i, int v) {
        if (!nodes.known(node)) return BAD;
        if (pockets.isEmpty(node)) return meet(NOTHING);
        if (!pockets.isNote(node)) return meet(UNLIKE);
        if (!within(i, 0, pockets.item[node] - 1)) return meet(BEYOND);
        return pockets.change(node, i, v) + NOTE_BASE;
    }

    public int copy(int node, int i, int other, int j, int n) {
        if (!nodes.known(node) || !nodes.known(other)) return BAD;
        if (pockets.isNode(node) || pockets.isNode(other)) return meet(UNLIKE);
        if (pockets.isEmpty(node) || pockets.isEmpty(other)) return meet(NOTHING);
        if (!pockets.spans(node, i, n) || !pockets.spans(other, j, n)) return meet(BEYOND);
        pockets.move(node, i, other, j, n);
        return 1;
    }

    public int array(int kind, int n) {
        if (!within(kind, BYTES, LONGS) || n > MOST_LENGTH) return BAD;
        if (arrays >= MOST_ARRAYS) return FULL;
        if (n < 0) return meet(SIZE);
        racks[arrays] = new Rack(kind, n);
        arrays++;
        return arrays - 1;
    }

    public int row(int array, int i, int n) {
        Rack rack = rackOf(array);
        if (rack == null || n > MOST_LENGTH) return BAD;
        if (!rack.hasRow(i)) return meet(BEYOND);
        if (n < 0) return meet(SIZE);
        rack.renew(i, n);
        return n;
    }

    public int tear(int array, int i) {
        Rack rack = rackOf(array);
        if (rack == null) return BAD;
        if (!rack.hasRow(i)) return meet(BEYOND);
        rack.lengths[i] = Rack.MISSING;
        return 1;
    }

    public int lay(int array, int i, int j, long v) {
        Rack rack = rackOf(array);
        if (rack == null) return BAD;
        int lack = rack.lack(i, j);
        if (lack != 0) return meet(lack);
        rack.store(i, j, v);
        return 1;
    }

    public int get(int array, int i, int j) {
        Rack rack = rackOf(array);
        if (rack == null) return BAD;
        int lack = rack.lack(i, j);
        if (lack != 0) return meet(lack);
        told = rack.load(i, j);
        return 1;
    }

    public long asked() {
        return told;
    }

    // ---- 3 bodies, needs

    public int visits() {
        return tooMany() ? SPENT : body.made;
    }

    public int visit(int i, int what, boolean fresh) {
        if (!within(what, 0, LETTERS)) return BAD;
        if (tooMany()) return SPENT;
        if (!within(i, 0, body.made - 1)) return NONE;
        int v = visitAt(i, fresh);
        return what == 0 ? body.actNode(v) : (int) (POINT_BASE + body.letter(v, what - 1));
    }

    public int has(int act, int a, int b, int c, int d) {
        if (!nodes.known(act)) return BAD;
        if (tooMany()) return SPENT;
        if (!nodes.isAct(act)) return meet(UNLIKE);
        for (int v = 0; v < body.made; v++) {
            if (body.actNode(v) == act && body.isAt(v, a, b, c, d)) return 1;
        }
        return 0;
    }

    public int points(int act) {
        if (!nodes.known(act)) return BAD;
        if (tooMany()) return SPENT;
        if (!nodes.isAct(act)) return meet(UNLIKE);
        int found = 0;
        for (int v = 0; v < body.made; v++) {
            if (body.actNode(v) == act) found++;
        }
        return found;
    }

    public int needs(int from, int to, int kind) {
        if (!nodes.known(from) || !nodes.known(to) || !within(kind, 0, KINDS - 1)) return BAD;
        if (tooMany()) return SPENT;
        if (!nodes.isAct(from) || !nodes.isAct(to)) return meet(UNLIKE);
        needs.refresh();
        return needs.ofKind[nodes.pair(from, to) * KINDS + kind];
    }

    public int carried(int depth) {
        if (depth != NONE && !within(depth, 0, LETTERS - 1)) return BAD;
        if (tooMany()) return SPENT;
        needs.refresh();
        return needs.byDepth[depth == NONE ? LETTERS : depth];
    }

    public int distance(int from, int to, int d, boolean most) {
        if (!nodes.known(from) || !nodes.known(to) || !within(d, 0, LETTERS - 1)) return BAD;
        if (tooMany()) return SPENT;
        if (!nodes.isAct(from) || !nodes.isAct(to)) return meet(UNLIKE);
        if (d >= nodes.common(from, to)) return BAD;
        needs.refresh();
        int pair = nodes.pair(from, to);
        if (!needs.isAny(pair)) return NONE;
        told = most ? needs.most[pair * LETTERS + d] : needs.least[pair * LETTERS + d];
        return 1;
    }

    public int free(int loop) {
        if (!nodes.known(loop)) return BAD;
        if (tooMany()) return SPENT;
        if (!nodes.isLoop(loop)) return meet(UNLIKE);
        needs.refresh();
        return needs.isCarriedBy(loop) ? 0 : 1;
    }

    // ---- 4 orders

    public int swap(int loop, int e) {
        if (!nodes.known(loop)) return BAD;
        if (!nodes.isLoop(loop)) return meet(UNLIKE);
        if (!within(e, nodes.loops[loop] + 1, LETTERS - 1)) return BAD;
        orders.keep();
        orders.swapRows(loop, e);
        return turned();
    }

    public int lean(int loop, int e, int f) {
        if (!nodes.known(loop) || !within(e, 0, LETTERS - 1)) return BAD;
        if (!within(f, -MOST_LEAN, MOST_LEAN)) return BAD;
        if (!nodes.isLoop(loop)) return meet(UNLIKE);
        if (e == nodes.loops[loop]) return BAD;
        if (!orders.leanFits(loop, e, f)) return SPENT;
        orders.keep();
        orders.leanRows(loop, e, f);
        return turned();
    }

    public int back(int loop) {
        if (!nodes.known(loop)) return BAD;
        if (!nodes.isLoop(loop)) return meet(UNLIKE);
        orders.keep();
        orders.turnSigns(loop);
        return turned();
    }

    public int shift(int act, int d, int k) {
        if (!nodes.known(act) || !within(d, 0, LETTERS - 1)) return BAD;
        if (!within(k, -MOST_SHIFT, MOST_SHIFT)) return BAD;
        if (!nodes.isAct(act)) return meet(UNLIKE);
        int at = orders.now.loopRow(nodes.actOf[act], d);
        if (at < 0) return BAD;
        int number = orders.now.cells[at] + k;
        if (!rowNumberFits(number)) return SPENT;
        orders.keep();
        orders.now.cells[at] = number;
        return turned();
    }

    public int tile(int loop, int n, int w) {
        if (!nodes.known(loop) || !within(n, 1, LETTERS) || !within(w, 2, MOST_TILE)) return BAD;
        if (!nodes.isLoop(loop)) return meet(UNLIKE);
        if (!orders.tileFits(loop, n, w)) return FULL;
        orders.keep();
        orders.tileRows(loop, n, w);
        return turned();
    }

    public int part(int loop) {
        if (!nodes.known(loop)) return BAD;
        if (!nodes.isLoop(loop)) return meet(UNLIKE);
        if (!orders.partFits(loop)) return SPENT;
        orders.keep();
        orders.partRows(loop);
        return turned();
    }

    public int join(int loop, int other) {
        if (!nodes.known(loop) || !nodes.known(other)) return BAD;
        if (!nodes.isLoop(loop) || !nodes.isLoop(other)) return meet(UNLIKE);
        if (nodes.parent[loop] != nodes.parent[other] || other <= loop) return BAD;
        int first = nodes.firstActIn(loop);
        if (first < 0) return BAD;
        orders.keep();
        orders.joinRows(first, other);
        return turned();
    }

    public int undo() {
        if (orders.turns <= 0) return STATE;
        orders.takeBack();
        ordersChanged();
        return orders.turns;
    }

    public int order(int act, int i, int what) {
        if (!nodes.known(act) || !within(what, 0, LETTER_CELL)) return BAD;
        if (!nodes.isAct(act)) return meet(UNLIKE);
        int a = nodes.actOf[act];
        if (!within(i, 0, orders.now.rows[a] - 1)) return NONE;
        int cell = orders.now.cells[orders.now.at(a, i) + what];
        return what < WIDTH_CELL ? ROW_BASE + cell : cell;
    }

    public int allowed() {
        if (tooMany()) return SPENT;
        return weave.isAllowed() ? 1 : 0;
    }

    public int why(int what) {
        if (!within(what, 0, 2)) return BAD;
        if (tooMany()) return SPENT;
        if (weave.isAllowed()) return NONE;
        if (what == 2) return weave.wrongKind;
        return what == 0 ? weave.wrongFirst : weave.wrongSecond;
    }

    // ---- 5 runs

    public int run(boolean fresh) {
        if (tooMany()) return SPENT;
        touches.refresh();
        int lack = 0;
        endedCount = 0;
        endedAct = NONE;
        for (int i = 0; i < body.made && lack == 0; i++) {
            int v = visitAt(i, fresh);
            lack = perform(v);
            if (lack == 0) {
                endedCount++;
            } else {
                endAt(v);
            }
        }
        return lack == 0 ? endedCount : meet(lack);
    }

    public int ended(int what) {
        if (!within(what, 0, LETTERS + 1)) return BAD;
        if (what == 0) return endedCount;
        if (what == 1 || endedAct == NONE) return endedAct;
        return (int) (POINT_BASE + endedPoint[what - 2]);
    }

    public int fetched(int n, int w) {
        if (!roomFits(n, w)) return BAD;
        if (tooMany()) return SPENT;
        return countFetched(n, w);
    }

    public int best(int loop, int n, int w) {
        if (!nodes.known(loop) || !roomFits(n, w)) return BAD;
        if (tooMany()) return SPENT;
        if (!nodes.isLoop(loop)) return meet(UNLIKE);
        int fewest = NONE;
        int chosen = NONE;
        int choices = choicesOf(loop);
        for (int c = 0; c < choices; c++) {
            int fetched = tryChoice(loop, c, n, w);
            if (fetched >= 0 && (fewest < 0 || fetched < fewest)) {
                fewest = fetched;
                chosen = c;
            }
        }
        if (chosen > 0) {
            orders.keep();
            makeChoice(loop, chosen);
        }
        ordersChanged();
        return fewest;
    }

    public int lines() {
        if (tooMany()) return SPENT;
        weave.partLines();
        return weave.lines;
    }

    public int written(int i, int what) {
        if (!within(what, 0, 2 * LETTERS + 1)) return BAD;
        if (tooMany()) return SPENT;
        weave.partLines();
        if (!within(i, 0, weave.lines - 1)) return NONE;
        told = tellLine(i, what);
        return 1;
    }

    // ---- 6 what is told

    public int count(int what) {
        switch (what) {
            case 0: return sums.made;
            case 1: return nodes.made;
            case 2: return nodes.acts;
            case 3: return arrays;
            case 4: return orders.turns;
            default: return BAD;
        }
    }

    public int finding() {
        return latest;
    }

    public int findings(int f) {
        return within(f, NOTHING, SIZE) ? tally[f] : BAD;
    }

    public long digest() {
        long h = 17;
        for (int s = 0; s < SIZES; s++) h = 31 * h + sums.sizes[s];
        for (int n = 0; n < nodes.made; n++) {
            for (int what = 0; what <= 4; what++) h = 31 * h + nodes.tell(n, what);
        }
        h = orders.now.mix(h, nodes.acts);
        for (int r = 0; r < arrays; r++) {
            Rack rack = rackOf(r);
            if (rack != null) h = rack.mix(h);
        }
        return h;
    }

    // ---- what the calls share

    private static boolean within(int v, int low, int high) {
        return v >= low && v <= high;
    }

    private static boolean rowNumberFits(int v) {
        return within(v, -MOST_ROW_NUMBER, MOST_ROW_NUMBER);
    }

    private static boolean roomFits(int n, int w) {
        return within(n, 1, MOST_PIECES) && within(w, 1, MOST_LENGTH);
    }

    private int meet(int f) {
        latest = f;
        tally[f]++;
        return FINDING;
    }

    private Rack rackOf(int array) {
        return within(array, 0, arrays - 1) ? racks[array] : null;
    }

    private int grow(int parent, int kind, int first, int second) {
        if (nodes.made >= MOST_NODES) return FULL;
        int n = nodes.add(parent, kind, first, second);
        orders.begin();
        programChanged();
        return n;
    }

    private void programChanged() {
        body.ready = false;
        aimsChanged();
        ordersChanged();
    }

    private void aimsChanged() {
        touches.ready = false;
        needs.ready = false;
        weave.judged = false;
    }

    private void ordersChanged() {
        weave.arranged = false;
        weave.judged = false;
        weave.parted = false;
    }

    private int turned() {
        ordersChanged();
        return 1;
    }

    private boolean tooMany() {
        body.refresh();
        return body.spent;
    }

    private int visitAt(int i, boolean fresh) {
        if (!fresh) return i;
        weave.arrange();
        return weave.sequence[i];
    }

    private int perform(int v) {
        int lack = lackAt(v, 1);
        if (lack == 0) lack = lackAt(v, 2);
        if (lack != 0) return lack;
        int n = body.actNode(v);
        long x = loadAt(v, 1);
        long y = loadAt(v, 2);
        if (nodes.first[n] == 3 && y == 0) return NOUGHT;
        lack = lackAt(v, 0);
        if (lack != 0) return lack;
        Rack rack = rackOf(touches.arrayAt(v, 0));
        if (rack != null) {
            int t = v * AIMS;
            rack.store((int) touches.row[t], (int) touches.place[t], outcome(n, x, y));
        }
        return 0;
    }

    private int lackAt(int v, int which) {
        Rack rack = rackOf(touches.arrayAt(v, which));
        if (rack == null) return 0;
        int t = v * AIMS + which;
        return rack.lack(touches.row[t], touches.place[t]);
    }

    private long loadAt(int v, int which) {
        Rack rack = rackOf(touches.arrayAt(v, which));
        if (rack == null) return 0;
        int t = v * AIMS + which;
        return rack.load((int) touches.row[t], (int) touches.place[t]);
    }

    private long outcome(int n, long x, long y) {
        int k = nodes.second[n];
        switch (nodes.first[n]) {
            case 0: return x;
            case 1: return x + y;
            case 2: return x * y;
            case 3: return y == 0 ? 0 : x / y;
            case 4: return k;
            default: return x + k;
        }
    }

    private void endAt(int v) {
        endedAct = body.actNode(v);
        for (int d = 0; d < LETTERS; d++) endedPoint[d] = body.letter(v, d);
    }

    private int countFetched(int n, int w) {
        touches.refresh();
        weave.arrange();
        room.clear(n);
        int found = 0;
        for (int i = 0; i < body.made; i++) {
            int v = weave.sequence[i];
            found += fetchBy(v, 1, w) + fetchBy(v, 2, w) + fetchBy(v, 0, w);
        }
        return found;
    }

    private int fetchBy(int v, int which, int w) {
        int array = touches.arrayAt(v, which);
        if (array < 0 || w <= 0) return 0;
        int t = v * AIMS + which;
        return room.bring(array, touches.row[t], Math.floorDiv(touches.place[t], (long) w)) ? 1 : 0;
    }

    /** None, a swap for each LETTER above the LOOP's own, back. */
    private int choicesOf(int loop) {
        return LETTERS - nodes.loops[loop] + 1;
    }

    private void makeChoice(int loop, int choice) {
        if (choice <= 0) return;
        if (choice == choicesOf(loop) - 1) {
            orders.turnSigns(loop);
        } else {
            orders.swapRows(loop, nodes.loops[loop] + choice);
        }
    }

    /** How many are fetched with a choice, NONE if it is not ALLOWED; the ORDERS are as before. */
    private int tryChoice(int loop, int choice, int n, int w) {
        orders.setAside();
        makeChoice(loop, choice);
        ordersChanged();
        int found = weave.isAllowed() ? countFetched(n, w) : NONE;
        orders.takeAside();
        return found;
    }

    private long tellLine(int i, int what) {
        int from = weave.starts[i];
        int length = weave.starts[i + 1] - from;
        int v = weave.sequence[from];
        if (what == 0) return body.actNode(v);
        if (what == 2 * LETTERS + 1) return length;
        if (what <= LETTERS) return body.letter(v, what - 1);
        if (length < 2) return 0;
        int d = what - LETTERS - 1;
        return body.letter(weave.sequence[from + 1], d) - body.letter(v, d);
    }

    /** SIZES, THE DRAFT and the SUMS made of it. */
    private static final class Sums {
        final int[] sizes = new int[SIZES];
        final int[] draft = new int[TERMS];
        final int[] terms = new int[MOST_SUMS * TERMS];
        int made = 1;

        boolean known(int s) {
            return s >= 0 && s < made;
        }

        int keepDraft() {
            System.arraycopy(draft, 0, terms, made * TERMS, TERMS);
            Arrays.fill(draft, 0);
            made++;
            return made - 1;
        }

        /** Whether it is a SUM with no LETTERS but those of so many LOOPS around. */
        boolean fits(int s, int around) {
            if (!known(s)) return false;
            int letters = s * TERMS + TERMS - LETTERS;
            for (int d = around; d < LETTERS; d++) {
                if (terms[letters + d] != 0) return false;
            }
            return true;
        }

        /** What a SUM is with the four LETTERS that stand in a row from a place on. */
        long reckon(int s, long[] letters, int from) {
            int t = s * TERMS;
            long v = terms[t];
            for (int k = 0; k < SIZES; k++) v += (long) terms[t + 1 + k] * sizes[k];
            for (int d = 0; d < LETTERS; d++) v += terms[t + 1 + SIZES + d] * letters[from + d];
            return v;
        }
    }

    /** The program: NODES, how they stand in one another, and the AIMS of its ACTS. */
    private static final class Nodes {
        /** One more than the NODES: the last one is the top. */
        final int[] firstIn = new int[MOST_NODES + 1];
        final int[] lastIn = new int[MOST_NODES + 1];
        final int[] next = new int[MOST_NODES];
        final int[] kind = new int[MOST_NODES];
        final int[] parent = new int[MOST_NODES];
        final int[] loops = new int[MOST_NODES];
        final int[] first = new int[MOST_NODES];
        final int[] second = new int[MOST_NODES];
        final int[] around = new int[MOST_NODES * LETTERS];
        final int[] places = new int[MOST_NODES * (LETTERS + 1)];
        int made = 0;
        final int[] actNode = new int[MOST_ACTS];
        final int[] actOf = new int[MOST_NODES];
        int acts = 0;
        final int[] aimArray = new int[MOST_ACTS * AIMS];
        final int[] aimRow = new int[MOST_ACTS * AIMS];
        final int[] aimPlace = new int[MOST_ACTS * AIMS];

        Nodes() {
            Arrays.fill(firstIn, NONE);
            Arrays.fill(lastIn, NONE);
            Arrays.fill(aimArray, NONE);
        }

        boolean known(int n) {
            return n >= 0 && n < made;
        }

        boolean isAct(int n) {
            return kind[n] == ACT;
        }

        boolean isLoop(int n) {
            return kind[n] == LOOP || kind[n] == SIDE;
        }

        boolean isOfKind(int n, int k) {
            return k == LOOP ? isLoop(n) : kind[n] == k;
        }

        /** Whether NODES may stand in it: the top, a LOOP, a TEST. */
        boolean opens(int p) {
            return p == NONE || known(p) && !isAct(p);
        }

        /** How many LOOPS are around what stands in it. */
        int loopsIn(int p) {
            if (p == NONE) return 0;
            return isLoop(p) ? loops[p] + 1 : loops[p];
        }

        int add(int p, int k, int one, int two) {
            int n = made;
            kind[n] = k;
            parent[n] = p;
            loops[n] = loopsIn(p);
            first[n] = one;
            second[n] = two;
            inherit(n, p);
            hang(n, p == NONE ? MOST_NODES : p);
            actOf[n] = NONE;
            if (k == ACT) {
                actNode[acts] = n;
                actOf[n] = acts;
                acts++;
            }
            made++;
            return n;
        }

        /** The LOOPS around a new NODE, and its PLACES: the outermost NODE behind each of these LOOPS. */
        private void inherit(int n, int p) {
            int own = loops[n];
            for (int d = 0; d < own; d++) {
                boolean isParent = d == own - 1 && isLoop(p);
                around[n * LETTERS + d] = isParent ? p : around[p * LETTERS + d];
            }
            int passed = p == NONE ? 0 : loops[p] + 1;
            for (int d = 0; d <= own; d++) {
                places[n * (LETTERS + 1) + d] = d < passed ? places[p * (LETTERS + 1) + d] : n;
            }
        }

        private void hang(int n, int p) {
            firstIn[n] = NONE;
            lastIn[n] = NONE;
            next[n] = NONE;
            if (lastIn[p] == NONE) {
                firstIn[p] = n;
            } else {
                next[lastIn[p]] = n;
            }
            lastIn[p] = n;
        }

        void setAim(int at, int array, int row, int place) {
            aimArray[at] = array;
            aimRow[at] = row;
            aimPlace[at] = place;
        }

        int tell(int n, int what) {
            switch (what) {
                case 0: return kind[n];
                case 1: return parent[n];
                case 2: return loops[n];
                case 3: return first[n];
                default: return second[n];
            }
        }

        /** PLACE k of an ACT as it is at first. */
        int placeOf(int a, int k) {
            return places[actNode[a] * (LETTERS + 1) + k];
        }

        boolean stands(int a, int loop) {
            int n = actNode[a];
            int d = loops[loop];
            return d < loops[n] && around[n * LETTERS + d] == loop;
        }

        boolean hasLetter(int a, int d) {
            return d < loops[actNode[a]];
        }

        int firstActIn(int loop) {
            for (int a = 0; a < acts; a++) {
                if (stands(a, loop)) return a;
            }
            return NONE;
        }

        int pair(int from, int to) {
            return actOf[from] * MOST_ACTS + actOf[to];
        }

        /** How many LOOPS are around both NODES. */
        int common(int m, int n) {
            int least = Math.min(loops[m], loops[n]);
            int d = 0;
            while (d < least && around[m * LETTERS + d] == around[n * LETTERS + d]) d++;
            return d;
        }
    }

    /** What the POCKETS of NODES hold. */
    private static final class Pockets {
        private static final int EMPTY = 0, HOLDS_NODE = 1, HOLDS_NOTE = 2;

        private final int[] state = new int[MOST_NODES];
        /** The NODE that is held, or the note's length. */
        final int[] item = new int[MOST_NODES];
        private final byte[] bytes = new byte[MOST_NODES * MOST_NOTE];

        boolean isEmpty(int n) {
            return state[n] == EMPTY;
        }

        boolean isNode(int n) {
            return state[n] == HOLDS_NODE;
        }

        boolean isNote(int n) {
            return state[n] == HOLDS_NOTE;
        }

        void empty(int n) {
            state[n] = EMPTY;
        }

        void putNode(int n, int other) {
            state[n] = HOLDS_NODE;
            item[n] = other;
        }

        void putNote(int n, int length) {
            state[n] = HOLDS_NOTE;
            item[n] = length;
            Arrays.fill(bytes, n * MOST_NOTE, n * MOST_NOTE + length, (byte) 0);
        }

        int change(int n, int i, int v) {
            int old = bytes[n * MOST_NOTE + i];
            bytes[n * MOST_NOTE + i] = (byte) v;
            return old;
        }

        boolean spans(int n, int i, int length) {
            return i >= 0 && length >= 0 && (long) i + length <= item[n];
        }

        void move(int n, int i, int other, int j, int length) {
            System.arraycopy(bytes, n * MOST_NOTE + i, bytes, other * MOST_NOTE + j, length);
        }
    }

    /** An ARRAY. */
    private static final class Rack {
        static final int MISSING = -1;

        private final int kind;
        final int[] lengths;
        private final long[] cells;

        Rack(int kind, int n) {
            this.kind = kind;
            lengths = new int[n];
            cells = new long[n * MOST_LENGTH];
            Arrays.fill(lengths, MISSING);
        }

        boolean hasRow(long i) {
            return i >= 0 && i < lengths.length;
        }

        void renew(int i, int n) {
            lengths[i] = n;
            Arrays.fill(cells, i * MOST_LENGTH, i * MOST_LENGTH + n, 0L);
        }

        /** The FINDING that is met at a place, 0 if it is there. */
        int lack(long i, long j) {
            if (!hasRow(i)) return BEYOND;
            int length = lengths[(int) i];
            if (length == MISSING) return NOTHING;
            return j >= 0 && j < length ? 0 : BEYOND;
        }

        long load(int i, int j) {
            return cells[i * MOST_LENGTH + j];
        }

        void store(int i, int j, long v) {
            cells[i * MOST_LENGTH + j] = cut(v);
        }

        private long cut(long v) {
            switch (kind) {
                case BYTES: return (byte) v;
                case SHORTS: return (short) v;
                case INTS: return (int) v;
                default: return v;
            }
        }

        long mix(long h) {
            for (int i = 0; i < lengths.length; i++) {
                h = 31 * h + lengths[i];
                for (int j = 0; j < lengths[i]; j++) h = 31 * h + load(i, j);
            }
            return h;
        }
    }

    /**
     * The ORDERS of all ACTS at one time. A ROW is seven cells: its number,
     * four for LETTERS, its WIDTH, and the LETTER whose LOOP ROW it is (NONE).
     */
    private static final class Sheet {
        final int[] cells = new int[MOST_ACTS * MOST_ROWS * ROW_CELLS];
        final int[] rows = new int[MOST_ACTS];

        int at(int a, int i) {
            return (a * MOST_ROWS + i) * ROW_CELLS;
        }

        void take(Sheet other, int acts) {
            System.arraycopy(other.cells, 0, cells, 0, acts * MOST_ROWS * ROW_CELLS);
            System.arraycopy(other.rows, 0, rows, 0, acts);
        }

        void addPlace(int a, int place) {
            int at = addRow(a);
            cells[at] = place;
        }

        void addLetter(int a, int d) {
            int at = addRow(a);
            cells[at + 1 + d] = 1;
            cells[at + LETTER_CELL] = d;
        }

        private int addRow(int a) {
            int at = at(a, rows[a]);
            Arrays.fill(cells, at, at + ROW_CELLS, 0);
            cells[at + WIDTH_CELL] = 1;
            cells[at + LETTER_CELL] = NONE;
            rows[a]++;
            return at;
        }

        /** Where the cells of an ACT's LOOP ROW of a LETTER begin; NONE: it has none. */
        int loopRow(int a, int d) {
            for (int i = 0; i < rows[a]; i++) {
                int at = at(a, i);
                if (cells[at + LETTER_CELL] == d) return at;
            }
            return NONE;
        }

        /** Where the cells of the ROW ahead of that LOOP ROW begin; NONE: there is none. */
        int rowAhead(int a, int d) {
            int at = loopRow(a, d);
            return at > at(a, 0) ? at - ROW_CELLS : NONE;
        }

        /** Makes room for n ROWS ahead of the one whose cells begin there. */
        void openRows(int a, int at, int n) {
            int end = at(a, rows[a]);
            System.arraycopy(cells, at, cells, at + n * ROW_CELLS, end - at);
            rows[a] += n;
        }

        long mix(long h, int acts) {
            for (int a = 0; a < acts; a++) {
                int end = at(a, rows[a]);
                for (int c = at(a, 0); c < end; c++) h = 31 * h + cells[c];
            }
            return h;
        }
    }

    /** The ORDERS now, those kept for undo(), and what TURNS do to them. */
    private static final class Orders {
        private final Nodes nodes;
        final Sheet now = new Sheet();
        private final Sheet aside = new Sheet();
        /** A ring: the oldest one gives way to the twenty-first. */
        private final Sheet[] kept = new Sheet[MOST_KEPT];
        private int oldest = 0;
        int turns = 0;

        Orders(Nodes nodes) {
            this.nodes = nodes;
        }

        void begin() {
            turns = 0;
            for (int a = 0; a < nodes.acts; a++) {
                now.rows[a] = 0;
                int around = nodes.loops[nodes.actNode[a]];
                for (int d = 0; d < around; d++) {
                    now.addPlace(a, nodes.placeOf(a, d));
                    now.addLetter(a, d);
                }
                now.addPlace(a, nodes.placeOf(a, around));
            }
        }

        void keep() {
            int slot = (oldest + turns) % MOST_KEPT;
            Sheet sheet = kept[slot];
            if (sheet == null) {
                sheet = new Sheet();
                kept[slot] = sheet;
            }
            sheet.take(now, nodes.acts);
            if (turns < MOST_KEPT) {
                turns++;
            } else {
                oldest = (oldest + 1) % MOST_KEPT;
            }
        }

        void takeBack() {
            turns--;
            Sheet sheet = kept[(oldest + turns) % MOST_KEPT];
            if (sheet != null) now.take(sheet, nodes.acts);
        }

        void setAside() {
            aside.take(now, nodes.acts);
        }

        void takeAside() {
            now.take(aside, nodes.acts);
        }

        private boolean reaches(int a, int loop, int e) {
            return nodes.stands(a, loop) && nodes.hasLetter(a, e);
        }

        void swapRows(int loop, int e) {
            int d = nodes.loops[loop];
            for (int a = 0; a < nodes.acts; a++) {
                if (!reaches(a, loop, e)) continue;
                int one = now.loopRow(a, d);
                int two = now.loopRow(a, e);
                if (one < 0 || two < 0) continue;
                for (int c = 0; c <= WIDTH_CELL; c++) {
                    int cell = now.cells[one + c];
                    now.cells[one + c] = now.cells[two + c];
                    now.cells[two + c] = cell;
                }
            }
        }

        boolean leanFits(int loop, int e, int f) {
            int d = nodes.loops[loop];
            for (int a = 0; a < nodes.acts; a++) {
                if (!reaches(a, loop, e)) continue;
                int one = now.loopRow(a, d);
                int two = now.loopRow(a, e);
                if (one < 0 || two < 0) continue;
                for (int c = 0; c < WIDTH_CELL; c++) {
                    if (!rowNumberFits(now.cells[one + c] + f * now.cells[two + c])) return false;
                }
            }
            return true;
        }

        void leanRows(int loop, int e, int f) {
            int d = nodes.loops[loop];
            for (int a = 0; a < nodes.acts; a++) {
                if (!reaches(a, loop, e)) continue;
                int one = now.loopRow(a, d);
                int two = now.loopRow(a, e);
                if (one < 0 || two < 0) continue;
                for (int c = 0; c < WIDTH_CELL; c++) now.cells[one + c] += f * now.cells[two + c];
            }
        }

        void turnSigns(int loop) {
            int d = nodes.loops[loop];
            for (int a = 0; a < nodes.acts; a++) {
                if (!nodes.stands(a, loop)) continue;
                int at = now.loopRow(a, d);
                if (at < 0) continue;
                for (int c = 0; c < WIDTH_CELL; c++) now.cells[at + c] = -now.cells[at + c];
            }
        }

        boolean tileFits(int loop, int n, int w) {
            int d = nodes.loops[loop];
            for (int a = 0; a < nodes.acts; a++) {
                if (!reaches(a, loop, d + n - 1)) continue;
                if (now.rows[a] + n > MOST_ROWS) return false;
                for (int k = 0; k < n; k++) {
                    int at = now.loopRow(a, d + k);
                    if (at >= 0 && now.cells[at + WIDTH_CELL] * w > MOST_WIDTH) return false;
                }
            }
            return true;
        }

        void tileRows(int loop, int n, int w) {
            int d = nodes.loops[loop];
            for (int a = 0; a < nodes.acts; a++) {
                if (!reaches(a, loop, d + n - 1)) continue;
                int at = now.loopRow(a, d);
                if (at < 0) continue;
                now.openRows(a, at, n);
                // The opened cells still hold old LETTERS, which loopRow() would find.
                for (int k = 0; k < n; k++) now.cells[at + k * ROW_CELLS + LETTER_CELL] = NONE;
                for (int k = 0; k < n; k++) widen(a, d + k, at + k * ROW_CELLS, w);
            }
        }

        /** A ROW becomes as the LOOP ROW of a LETTER, so many times as wide, but is not one itself. */
        private void widen(int a, int d, int at, int w) {
            int from = now.loopRow(a, d);
            if (from < 0) return;
            System.arraycopy(now.cells, from, now.cells, at, WIDTH_CELL);
            now.cells[at + WIDTH_CELL] = now.cells[from + WIDTH_CELL] * w;
        }

        boolean partFits(int loop) {
            int d = nodes.loops[loop];
            for (int a = 0; a < nodes.acts; a++) {
                if (!nodes.stands(a, loop)) continue;
                int at = now.rowAhead(a, d);
                if (at >= 0 && !rowNumberFits(parted(a, d, at))) return false;
            }
            return true;
        }

        void partRows(int loop) {
            int d = nodes.loops[loop];
            for (int a = 0; a < nodes.acts; a++) {
                if (!nodes.stands(a, loop)) continue;
                int at = now.rowAhead(a, d);
                if (at >= 0) now.cells[at] = parted(a, d, at);
            }
        }

        private int parted(int a, int d, int at) {
            return 100 * now.cells[at] + nodes.placeOf(a, d + 1);
        }

        void joinRows(int firstAct, int other) {
            int d = nodes.loops[other];
            int from = now.rowAhead(firstAct, d);
            if (from < 0) return;
            int number = now.cells[from];
            for (int a = 0; a < nodes.acts; a++) {
                if (!nodes.stands(a, other)) continue;
                int at = now.rowAhead(a, d);
                if (at >= 0) now.cells[at] = number;
            }
        }
    }

    /** The VISITS of the program, in its order. */
    private static final class Body {
        private final Sums sums;
        private final Nodes nodes;
        /** The ACT of each VISIT, counted among ACTS. */
        final int[] act = new int[MOST_VISITS];
        final long[] letters = new long[MOST_VISITS * LETTERS];
        private final long[] here = new long[LETTERS];
        int made = 0;
        private int loopTurns = 0;
        boolean spent = false;
        boolean ready = false;

        Body(Sums sums, Nodes nodes) {
            this.sums = sums;
            this.nodes = nodes;
        }

        void refresh() {
            if (ready) return;
            made = 0;
            loopTurns = 0;
            spent = false;
            Arrays.fill(here, 0L);
            walk(nodes.firstIn[MOST_NODES], 0);
            ready = true;
        }

        /** Comes to a NODE and those behind it in the same one. */
        private void walk(int from, int depth) {
            if (depth > MOST_NODES) return;
            int n = from;
            for (int k = 0; k < MOST_NODES && n >= 0 && !spent; k++) {
                if (nodes.isAct(n)) {
                    addVisit(nodes.actOf[n]);
                } else if (nodes.isLoop(n)) {
                    turnLoop(n, depth);
                } else if (passes(n)) {
                    walk(nodes.firstIn[n], depth + 1);
                }
                n = nodes.next[n];
            }
        }

        private void turnLoop(int n, int depth) {
            int d = nodes.loops[n];
            long from = sums.reckon(nodes.first[n], here, 0);
            long to = sums.reckon(nodes.second[n], here, 0);
            for (int k = 0; k <= MOST_LOOP_TURNS && from + k <= to && !spent; k++) {
                loopTurns++;
                if (loopTurns > MOST_LOOP_TURNS) {
                    spent = true;
                } else {
                    here[d] = from + k;
                    walk(nodes.firstIn[n], depth + 1);
                }
            }
            here[d] = 0;
        }

        private boolean passes(int n) {
            long v = sums.reckon(nodes.first[n], here, 0);
            int m = nodes.second[n];
            return m <= 0 ? v >= 0 : v % m == 0;
        }

        private void addVisit(int a) {
            if (made >= MOST_VISITS) {
                spent = true;
                return;
            }
            act[made] = a;
            System.arraycopy(here, 0, letters, made * LETTERS, LETTERS);
            made++;
        }

        int actNode(int v) {
            return nodes.actNode[act[v]];
        }

        long letter(int v, int d) {
            return letters[v * LETTERS + d];
        }

        boolean isAt(int v, int a, int b, int c, int d) {
            return letter(v, 0) == a && letter(v, 1) == b && letter(v, 2) == c && letter(v, 3) == d;
        }

        /** By how much the POINT of w differs from that of v at a LETTER. */
        long step(int v, int w, int d) {
            return letters[w * LETTERS + d] - letters[v * LETTERS + d];
        }
    }

    /** The places that VISITS TOUCH: three of a VISIT, one by each AIM. */
    private static final class Touches {
        /** A power of two, well above the 1200 places there can be. */
        private static final int SLOTS = 2048;

        private final Sums sums;
        private final Nodes nodes;
        private final Body body;
        final long[] row = new long[MOST_VISITS * AIMS];
        final long[] place = new long[MOST_VISITS * AIMS];
        /** A number for each place, the same for the same one; NONE without the AIM. */
        final int[] spot = new int[MOST_VISITS * AIMS];
        int spots = 0;
        /** The first touch of the place in a slot, and 1 more; 0: none. */
        private final int[] slots = new int[SLOTS];
        boolean ready = false;

        Touches(Sums sums, Nodes nodes, Body body) {
            this.sums = sums;
            this.nodes = nodes;
            this.body = body;
        }

        /** Of a BODY that is not SPENT. */
        void refresh() {
            if (ready) return;
            spots = 0;
            Arrays.fill(slots, 0);
            for (int v = 0; v < body.made; v++) {
                for (int which = 0; which < AIMS; which++) reckonTouch(v, which);
            }
            ready = true;
        }

        int arrayAt(int v, int which) {
            return nodes.aimArray[body.act[v] * AIMS + which];
        }

        private void reckonTouch(int v, int which) {
            int t = v * AIMS + which;
            int aim = body.act[v] * AIMS + which;
            spot[t] = NONE;
            if (nodes.aimArray[aim] < 0) return;
            row[t] = sums.reckon(nodes.aimRow[aim], body.letters, v * LETTERS);
            place[t] = sums.reckon(nodes.aimPlace[aim], body.letters, v * LETTERS);
            spot[t] = spotOf(t, nodes.aimArray[aim]);
        }

        private int spotOf(int t, int array) {
            int slot = slotOf(array, row[t], place[t]);
            for (int k = 0; k < SLOTS && slots[slot] != 0; k++) {
                int other = slots[slot] - 1;
                if (row[other] == row[t] && place[other] == place[t]
                        && arrayAt(other / AIMS, other % AIMS) == array) {
                    return spot[other];
                }
                slot = (slot + 1) & (SLOTS - 1);
            }
            slots[slot] = t + 1;
            spots++;
            return spots - 1;
        }

        private static int slotOf(int array, long i, long j) {
            long h = i * 0x9E3779B97F4A7C15L + j * 0xC2B2AE3D27D4EB4FL + array * 0x632BE59BD9B4E019L;
            return (int) (h >>> 48) & (SLOTS - 1);
        }

        private boolean isSame(int s, int t) {
            return spot[s] >= 0 && spot[s] == spot[t];
        }

        /** The least kind of a NEED of v, which is ahead, and w; NONE: there is none. */
        int leastKind(int v, int w) {
            int s = v * AIMS;
            int t = w * AIMS;
            if (isSame(s, t + 1) || isSame(s, t + 2)) return 0;
            if (isSame(s + 1, t) || isSame(s + 2, t)) return 1;
            return isSame(s, t) ? 2 : NONE;
        }
    }

    /** What is told of all NEEDS together. */
    private static final class Needs {
        private final Nodes nodes;
        private final Body body;
        private final Touches touches;
        /** By the ACTS of both VISITS, and the kind. */
        final int[] ofKind = new int[MOST_ACTS * MOST_ACTS * KINDS];
        /** By DEPTH; the last one is NONE. */
        final int[] byDepth = new int[LETTERS + 1];
        private final int[] ofPair = new int[MOST_ACTS * MOST_ACTS];
        private final int[] ofPairByDepth = new int[MOST_ACTS * MOST_ACTS * (LETTERS + 1)];
        private final int[] common = new int[MOST_ACTS * MOST_ACTS];
        final long[] least = new long[MOST_ACTS * MOST_ACTS * LETTERS];
        final long[] most = new long[MOST_ACTS * MOST_ACTS * LETTERS];
        /** Chains of VISITS that write, that read a place, the latest one first. */
        private final int[] lastWriter = new int[MOST_VISITS * AIMS];
        private final int[] writerBefore = new int[MOST_VISITS];
        private final int[] lastReader = new int[MOST_VISITS * AIMS];
        private final int[] readerBefore = new int[MOST_VISITS * 2];
        boolean ready = false;

        Needs(Nodes nodes, Body body, Touches touches) {
            this.nodes = nodes;
            this.body = body;
            this.touches = touches;
        }

        /** Of a BODY that is not SPENT. */
        void refresh() {
            if (ready) return;
            touches.refresh();
            clear();
            for (int w = 0; w < body.made; w++) {
                gather(w);
                link(w);
            }
            ready = true;
        }

        private void clear() {
            Arrays.fill(ofKind, 0);
            Arrays.fill(byDepth, 0);
            Arrays.fill(ofPair, 0);
            Arrays.fill(ofPairByDepth, 0);
            Arrays.fill(lastWriter, 0, touches.spots, NONE);
            Arrays.fill(lastReader, 0, touches.spots, NONE);
            for (int a = 0; a < nodes.acts; a++) {
                for (int b = 0; b < nodes.acts; b++) {
                    common[a * MOST_ACTS + b] = nodes.common(nodes.actNode[a], nodes.actNode[b]);
                }
            }
        }

        /** All NEEDS whose second VISIT is w. */
        private void gather(int w) {
            int written = touches.spot[w * AIMS];
            int one = touches.spot[w * AIMS + 1];
            int two = touches.spot[w * AIMS + 2];
            meetWriters(one, w, 0);
            if (two != one) meetWriters(two, w, 0);
            meetReaders(written, w);
            meetWriters(written, w, 2);
        }

        private void meetWriters(int spot, int w, int kind) {
            if (spot < 0) return;
            int v = lastWriter[spot];
            for (int k = 0; k < MOST_VISITS && v >= 0; k++) {
                addNeed(v, w, kind);
                v = writerBefore[v];
            }
        }

        private void meetReaders(int spot, int w) {
            if (spot < 0) return;
            int link = lastReader[spot];
            for (int k = 0; k < MOST_VISITS && link >= 0; k++) {
                addNeed(link / 2, w, 1);
                link = readerBefore[link];
            }
        }

        private void link(int w) {
            int written = touches.spot[w * AIMS];
            if (written >= 0) {
                writerBefore[w] = lastWriter[written];
                lastWriter[written] = w;
            }
            int one = touches.spot[w * AIMS + 1];
            int two = touches.spot[w * AIMS + 2];
            linkReader(one, w * 2);
            // A VISIT that reads a place twice has but one NEED by that.
            if (two != one) linkReader(two, w * 2 + 1);
        }

        private void linkReader(int spot, int link) {
            if (spot < 0) return;
            readerBefore[link] = lastReader[spot];
            lastReader[spot] = link;
        }

        private void addNeed(int v, int w, int kind) {
            int pair = body.act[v] * MOST_ACTS + body.act[w];
            int shared = common[pair];
            boolean isFirst = ofPair[pair] == 0;
            int depth = LETTERS;
            for (int d = shared - 1; d >= 0; d--) {
                long step = body.step(v, w, d);
                if (step != 0) depth = d;
                int at = pair * LETTERS + d;
                least[at] = isFirst ? step : Math.min(least[at], step);
                most[at] = isFirst ? step : Math.max(most[at], step);
            }
            ofPair[pair]++;
            ofKind[pair * KINDS + kind]++;
            byDepth[depth]++;
            ofPairByDepth[pair * (LETTERS + 1) + depth]++;
        }

        boolean isAny(int pair) {
            return ofPair[pair] > 0;
        }

        boolean isCarriedBy(int loop) {
            int d = nodes.loops[loop];
            for (int a = 0; a < nodes.acts; a++) {
                for (int b = 0; b < nodes.acts; b++) {
                    int at = (a * MOST_ACTS + b) * (LETTERS + 1) + d;
                    if (ofPairByDepth[at] > 0 && nodes.stands(a, loop) && nodes.stands(b, loop)) return true;
                }
            }
            return false;
        }
    }

    /** THE NEW ORDER: its VISITS, whether it is ALLOWED, and its LINES; of a BODY that is not SPENT. */
    private static final class Weave {
        private final Orders orders;
        private final Body body;
        private final Touches touches;
        private final long[] times = new long[MOST_VISITS * MOST_ROWS];
        /** The VISITS by their numbers in the program. */
        final int[] sequence = new int[MOST_VISITS];
        private final int[] spare = new int[MOST_VISITS];
        /** Where each VISIT of the program stands in the sequence. */
        private final int[] turn = new int[MOST_VISITS];
        boolean arranged = false;
        /** The latest turn in which a place was written, or TOUCHED at all. */
        private final int[] latestWrite = new int[MOST_VISITS * AIMS];
        private final int[] latestTouch = new int[MOST_VISITS * AIMS];
        int wrongFirst = NONE;
        int wrongSecond = NONE;
        int wrongKind = NONE;
        boolean judged = false;
        /** Where each LINE begins, and where the last one ends. */
        final int[] starts = new int[MOST_VISITS + 1];
        int lines = 0;
        boolean parted = false;

        Weave(Orders orders, Body body, Touches touches) {
            this.orders = orders;
            this.body = body;
            this.touches = touches;
        }

        void arrange() {
            if (arranged) return;
            for (int v = 0; v < body.made; v++) {
                reckonTimes(v);
                sequence[v] = v;
            }
            for (int run = 1; run < body.made; run *= 2) {
                for (int low = 0; low + run < body.made; low += 2 * run) {
                    merge(low, low + run, Math.min(low + 2 * run, body.made));
                }
            }
            for (int i = 0; i < body.made; i++) turn[sequence[i]] = i;
            arranged = true;
        }

        private void reckonTimes(int v) {
            Sheet sheet = orders.now;
            int a = body.act[v];
            for (int i = 0; i < sheet.rows[a]; i++) {
                int at = sheet.at(a, i);
                long time = sheet.cells[at];
                for (int d = 0; d < LETTERS; d++) time += sheet.cells[at + 1 + d] * body.letter(v, d);
                int width = sheet.cells[at + WIDTH_CELL];
                times[v * MOST_ROWS + i] = width > 1 ? Math.floorDiv(time, (long) width) : time;
            }
        }

        private void merge(int low, int middle, int high) {
            if (!isBehind(sequence[middle - 1], sequence[middle])) return;
            System.arraycopy(sequence, low, spare, low, high - low);
            int i = low;
            int j = middle;
            for (int k = low; k < high; k++) {
                if (j >= high || i < middle && !isBehind(spare[i], spare[j])) {
                    sequence[k] = spare[i];
                    i++;
                } else {
                    sequence[k] = spare[j];
                    j++;
                }
            }
        }

        /** Whether the TIME of v is behind that of w; those alike keep the program's order. */
        private boolean isBehind(int v, int w) {
            int ownRows = orders.now.rows[body.act[v]];
            int otherRows = orders.now.rows[body.act[w]];
            int shared = Math.min(ownRows, otherRows);
            for (int i = 0; i < shared; i++) {
                long own = times[v * MOST_ROWS + i];
                long other = times[w * MOST_ROWS + i];
                if (own != other) return own > other;
            }
            return ownRows > otherRows;
        }

        /**
         * By the latest turns at each place the first VISIT that comes too
         * early is seen without looking at all pairs; only its partner is then
         * looked for.
         */
        boolean isAllowed() {
            if (judged) return wrongSecond < 0;
            arrange();
            touches.refresh();
            wrongSecond = NONE;
            Arrays.fill(latestWrite, 0, touches.spots, NONE);
            Arrays.fill(latestTouch, 0, touches.spots, NONE);
            for (int w = 0; w < body.made && wrongSecond < 0; w++) {
                if (isEarly(w)) {
                    wrongSecond = w;
                } else {
                    remember(w);
                }
            }
            if (wrongSecond >= 0) findPartner(wrongSecond);
            judged = true;
            return wrongSecond < 0;
        }

        private boolean isEarly(int w) {
            int t = w * AIMS;
            return latestAt(latestTouch, touches.spot[t]) > turn[w]
                    || latestAt(latestWrite, touches.spot[t + 1]) > turn[w]
                    || latestAt(latestWrite, touches.spot[t + 2]) > turn[w];
        }

        private static int latestAt(int[] latest, int spot) {
            return spot < 0 ? NONE : latest[spot];
        }

        private void remember(int w) {
            for (int which = 0; which < AIMS; which++) {
                int spot = touches.spot[w * AIMS + which];
                if (spot < 0) continue;
                latestTouch[spot] = Math.max(latestTouch[spot], turn[w]);
                if (which == 0) latestWrite[spot] = Math.max(latestWrite[spot], turn[w]);
            }
        }

        private void findPartner(int w) {
            for (int v = 0; v < w; v++) {
                int kind = turn[v] > turn[w] ? touches.leastKind(v, w) : NONE;
                if (kind >= 0) {
                    wrongFirst = v;
                    wrongKind = kind;
                    return;
                }
            }
        }

        void partLines() {
            if (parted) return;
            arrange();
            lines = 0;
            int at = 0;
            for (int k = 0; k < MOST_VISITS && at < body.made; k++) {
                starts[lines] = at;
                lines++;
                at = endOfLine(at);
            }
            starts[lines] = body.made;
            parted = true;
        }

        private int endOfLine(int from) {
            int end = from + 1;
            while (end < body.made && goesOn(from, end)) end++;
            return end;
        }

        private boolean goesOn(int from, int i) {
            int v = sequence[i - 1];
            int w = sequence[i];
            if (body.act[v] != body.act[w]) return false;
            int first = sequence[from];
            int second = sequence[from + 1];
            for (int d = 0; d < LETTERS; d++) {
                if (body.step(v, w, d) != body.step(first, second, d)) return false;
            }
            return true;
        }
    }

    /** A room of PIECES, the one that was TOUCHED last first. */
    private static final class Room {
        private final int[] array = new int[MOST_PIECES];
        private final long[] row = new long[MOST_PIECES];
        private final long[] piece = new long[MOST_PIECES];
        private int most = 0;
        private int filled = 0;

        void clear(int n) {
            most = Math.min(n, MOST_PIECES);
            filled = 0;
        }

        /** Whether the PIECE, which is the first one then, has to be fetched. */
        boolean bring(int a, long i, long p) {
            int at = 0;
            while (at < filled && !(array[at] == a && row[at] == i && piece[at] == p)) at++;
            boolean isMissing = at >= filled;
            if (isMissing && filled < most) filled++;
            for (int k = Math.min(at, filled - 1); k > 0; k--) {
                array[k] = array[k - 1];
                row[k] = row[k - 1];
                piece[k] = piece[k - 1];
            }
            array[0] = a;
            row[0] = i;
            piece[0] = p;
            return isMissing;
        }
    }
}
