import java.util.ArrayList;
import java.util.Arrays;
import java.util.Collections;
import java.util.HashSet;
import java.util.LinkedList;
import java.util.List;

/**
 * The document in its plainest form, for ModelTest: nothing is kept between
 * calls but what the document says is kept, NEEDS are found by looking at all
 * pairs of VISITS, and the Java library is used freely.
 */
public final class Model {
    static final int BAD = -1, FULL = -2, FINDING = -3, STATE = -4, SPENT = -6, NONE = -9;

    static final class Node {
        int number, kind, first, second;
        Node parent;
        List<Node> in = new ArrayList<>();
        int[][] aims = new int[3][];
        Node held;
        byte[] note;
        List<Row> order = new ArrayList<>();

        List<Node> path() {
            List<Node> path = new ArrayList<>();
            for (Node n = this; n != null; n = n.parent) path.add(0, n);
            return path;
        }

        List<Node> loops() {
            List<Node> loops = new ArrayList<>();
            for (Node n = parent; n != null; n = n.parent) if (n.kind < 2) loops.add(0, n);
            return loops;
        }

        int place(int k) {
            for (Node n : path()) if (n.loops().size() == k) return n.number;
            throw new IllegalStateException();
        }
    }

    static final class Row implements Cloneable {
        int[] n = new int[5];
        int width = 1, letter = NONE;

        Row again() {
            Row r = new Row();
            r.n = n.clone();
            r.width = width;
            r.letter = letter;
            return r;
        }
    }

    static final class Visit {
        Node act;
        long[] p;
        int number;
    }

    static final class Need {
        Visit v, w;
        int kind;
    }

    final int[] sizes = new int[3];
    int[] draft = new int[8];
    final List<int[]> sums = new ArrayList<>(List.of(new int[8]));
    final List<Node> nodes = new ArrayList<>();
    final List<Node> top = new ArrayList<>();
    final List<Integer> arrayKinds = new ArrayList<>();
    final List<long[][]> arrays = new ArrayList<>();
    final LinkedList<List<List<Row>>> kept = new LinkedList<>();
    long asked = 0;
    int finding = 0;
    final int[] findings = new int[6];
    int[] endedOf = {0, NONE, NONE, NONE, NONE, NONE};

    int met(int f) {
        finding = f;
        findings[f]++;
        return FINDING;
    }

    boolean isNode(int n) { return n >= 0 && n < nodes.size(); }
    boolean isSum(int s) { return s >= 0 && s < sums.size(); }
    boolean isArray(int a) { return a >= 0 && a < arrays.size(); }
    boolean isLoop(int n) { return nodes.get(n).kind < 2; }
    boolean isAct(int n) { return nodes.get(n).kind == 3; }

    boolean lettersFit(int s, int loops) {
        for (int d = loops; d < 4; d++) if (sums.get(s)[4 + d] != 0) return false;
        return true;
    }

    long value(int s, long[] p) {
        int[] t = sums.get(s);
        long v = t[0];
        for (int i = 0; i < 3; i++) v += (long) t[1 + i] * sizes[i];
        for (int i = 0; i < 4; i++) v += t[4 + i] * p[i];
        return v;
    }

    List<Node> acts() {
        List<Node> acts = new ArrayList<>();
        for (Node n : nodes) if (n.kind == 3) acts.add(n);
        return acts;
    }

    // ---- 1

    public int size(int which, int v) {
        if (which < 0 || which > 2 || v < -400 || v > 400) return -1000;
        int old = sizes[which];
        sizes[which] = v;
        return old;
    }

    public int term(int which, int v) {
        if (which < 0 || which > 7 || v < -1000 || v > 1000) return BAD;
        draft[which] = v;
        return 1;
    }

    public int sum() {
        if (sums.size() == 80) return FULL;
        sums.add(draft);
        draft = new int[8];
        return sums.size() - 1;
    }

    // ---- 2

    Node parentOf(int parent) { return parent == NONE ? null : nodes.get(parent); }

    boolean badParent(int parent) { return parent != NONE && (!isNode(parent) || isAct(parent)); }

    int around(int parent) {
        if (parent == NONE) return 0;
        Node p = nodes.get(parent);
        return p.loops().size() + (p.kind < 2 ? 1 : 0);
    }

    int add(int parent, int kind, int first, int second) {
        if (nodes.size() == 40) return FULL;
        Node n = new Node();
        n.number = nodes.size();
        n.kind = kind;
        n.first = first;
        n.second = second;
        n.parent = parentOf(parent);
        (n.parent == null ? top : n.parent.in).add(n);
        nodes.add(n);
        kept.clear();
        for (Node a : acts()) {
            a.order.clear();
            int loops = a.loops().size();
            for (int k = 0; k <= loops; k++) {
                Row place = new Row();
                place.n[0] = a.place(k);
                a.order.add(place);
                if (k == loops) break;
                Row letter = new Row();
                letter.n[1 + k] = 1;
                letter.letter = k;
                a.order.add(letter);
            }
        }
        return n.number;
    }

    public int loop(int parent, int from, int to, boolean side) {
        if (badParent(parent) || !isSum(from) || !isSum(to)) return BAD;
        int around = around(parent);
        if (around == 4 || !lettersFit(from, around) || !lettersFit(to, around)) return BAD;
        return add(parent, side ? 1 : 0, from, to);
    }

    public int test(int parent, int sum, int m) {
        if (badParent(parent) || !isSum(sum) || m < 0 || m > 1000) return BAD;
        if (!lettersFit(sum, around(parent))) return BAD;
        return add(parent, 2, sum, m);
    }

    public int act(int parent, int sort, int k) {
        if (badParent(parent) || sort < 0 || sort > 5) return BAD;
        if (acts().size() == 12) return FULL;
        return add(parent, 3, sort, k);
    }

    public int aim(int act, int which, int array, int row, int place) {
        if (!isNode(act) || which < 0 || which > 2 || !isArray(array) || !isSum(row) || !isSum(place)) return BAD;
        if (!isAct(act)) return met(3);
        int around = nodes.get(act).loops().size();
        if (!lettersFit(row, around) || !lettersFit(place, around)) return BAD;
        nodes.get(act).aims[which] = new int[] {array, row, place};
        return 1;
    }

    public int node(int node, int what) {
        if (!isNode(node) || what < 0 || what > 4) return BAD;
        Node n = nodes.get(node);
        int parent = n.parent == null ? NONE : n.parent.number;
        return new int[] {n.kind, parent, n.loops().size(), n.first, n.second}[what];
    }

    public int hold(int node, int other) {
        if (!isNode(node) || other != NONE && (!isNode(other) || other == node)) return BAD;
        nodes.get(node).note = null;
        nodes.get(node).held = other == NONE ? null : nodes.get(other);
        return 1;
    }

    public int note(int node, int n) {
        if (!isNode(node) || n > 12) return BAD;
        if (n < 0) return met(5);
        nodes.get(node).held = null;
        nodes.get(node).note = new byte[n];
        return n;
    }

    public int held(int node, int kind) {
        if (!isNode(node) || kind < 0 || kind > 3) return BAD;
        Node n = nodes.get(node);
        if (n.note != null) return met(3);
        if (n.held == null) return met(1);
        boolean fits = n.held.kind == kind || kind == 0 && n.held.kind == 1;
        return fits ? n.held.number : met(3);
    }

    public int noted(int node, int i, int v) {
        if (!isNode(node)) return BAD;
        Node n = nodes.get(node);
        if (n.note == null && n.held == null) return met(1);
        if (n.note == null) return met(3);
        if (i < 0 || i >= n.note.length) return met(2);
        int old = n.note[i];
        n.note[i] = (byte) v;
        return old + 1000;
    }

    public int copy(int node, int i, int other, int j, int n) {
        if (!isNode(node) || !isNode(other)) return BAD;
        Node a = nodes.get(node);
        Node b = nodes.get(other);
        if (a.held != null || b.held != null) return met(3);
        if (a.note == null || b.note == null) return met(1);
        if (i < 0 || j < 0 || n < 0) return met(2);
        if ((long) i + n > a.note.length || (long) j + n > b.note.length) return met(2);
        byte[] taken = Arrays.copyOfRange(a.note, i, i + n);
        for (int k = 0; k < n; k++) b.note[j + k] = taken[k];
        return 1;
    }

    public int array(int kind, int n) {
        if (kind < 0 || kind > 3 || n > 20) return BAD;
        if (arrays.size() == 8) return FULL;
        if (n < 0) return met(5);
        arrayKinds.add(kind);
        arrays.add(new long[n][]);
        return arrays.size() - 1;
    }

    public int row(int array, int i, int n) {
        if (!isArray(array) || n > 20) return BAD;
        if (i < 0 || i >= arrays.get(array).length) return met(2);
        if (n < 0) return met(5);
        arrays.get(array)[i] = new long[n];
        return n;
    }

    public int tear(int array, int i) {
        if (!isArray(array)) return BAD;
        if (i < 0 || i >= arrays.get(array).length) return met(2);
        arrays.get(array)[i] = null;
        return 1;
    }

    int lack(int array, long i, long j) {
        long[][] rows = arrays.get(array);
        if (i < 0 || i >= rows.length) return 2;
        if (rows[(int) i] == null) return 1;
        return j < 0 || j >= rows[(int) i].length ? 2 : 0;
    }

    void store(int array, long i, long j, long v) {
        int kind = arrayKinds.get(array);
        long cut = kind == 0 ? (byte) v : kind == 1 ? (short) v : kind == 2 ? (int) v : v;
        arrays.get(array)[(int) i][(int) j] = cut;
    }

    public int lay(int array, int i, int j, long v) {
        if (!isArray(array)) return BAD;
        int lack = lack(array, i, j);
        if (lack != 0) return met(lack);
        store(array, i, j, v);
        return 1;
    }

    public int get(int array, int i, int j) {
        if (!isArray(array)) return BAD;
        int lack = lack(array, i, j);
        if (lack != 0) return met(lack);
        asked = arrays.get(array)[i][j];
        return 1;
    }

    public long asked() { return asked; }

    // ---- 3

    private int turns;

    /** The VISITS, null if they are SPENT. */
    List<Visit> all() {
        List<Visit> found = new ArrayList<>();
        turns = 0;
        return walk(top, new long[4], found) ? found : null;
    }

    private boolean walk(List<Node> list, long[] p, List<Visit> found) {
        for (Node n : list) {
            if (n.kind == 3) {
                Visit v = new Visit();
                v.act = n;
                v.p = p.clone();
                v.number = found.size();
                found.add(v);
                if (found.size() > 400) return false;
            } else if (n.kind == 2) {
                long s = value(n.first, p);
                boolean does = n.second == 0 ? s >= 0 : s % n.second == 0;
                if (does && !walk(n.in, p, found)) return false;
            } else {
                int d = n.loops().size();
                long to = value(n.second, p);
                for (long x = value(n.first, p); x <= to; x++) {
                    if (++turns > 4000) return false;
                    long[] q = p.clone();
                    q[d] = x;
                    if (!walk(n.in, q, found)) return false;
                }
            }
        }
        return true;
    }

    List<Long> touched(Visit v, int which) {
        int[] aim = v.act.aims[which];
        return aim == null ? null : List.of((long) aim[0], value(aim[1], v.p), value(aim[2], v.p));
    }

    boolean meets(Visit v, int i, Visit w, int j) {
        List<Long> a = touched(v, i);
        return a != null && a.equals(touched(w, j));
    }

    /** By the second VISIT, then the first, then the kind. */
    List<Need> allNeeds(List<Visit> visits) {
        List<Need> found = new ArrayList<>();
        for (Visit w : visits) {
            for (Visit v : visits.subList(0, w.number)) {
                boolean[] is = {meets(v, 0, w, 1) || meets(v, 0, w, 2),
                    meets(v, 1, w, 0) || meets(v, 2, w, 0), meets(v, 0, w, 0)};
                for (int kind = 0; kind < 3; kind++) {
                    if (!is[kind]) continue;
                    Need n = new Need();
                    n.v = v;
                    n.w = w;
                    n.kind = kind;
                    found.add(n);
                }
            }
        }
        return found;
    }

    static int common(Node a, Node b) {
        List<Node> one = a.loops();
        List<Node> two = b.loops();
        int d = 0;
        while (d < one.size() && d < two.size() && one.get(d) == two.get(d)) d++;
        return d;
    }

    static int carrier(Need n) {
        for (int d = 0; d < common(n.v.act, n.w.act); d++) if (n.v.p[d] != n.w.p[d]) return d;
        return NONE;
    }

    public int visits() {
        List<Visit> visits = all();
        return visits == null ? SPENT : visits.size();
    }

    public int visit(int i, int what, boolean fresh) {
        if (what < 0 || what > 4) return BAD;
        List<Visit> visits = all();
        if (visits == null) return SPENT;
        if (i < 0 || i >= visits.size()) return NONE;
        Visit v = (fresh ? newOrder(visits) : visits).get(i);
        return what == 0 ? v.act.number : (int) (100000 + v.p[what - 1]);
    }

    public int has(int act, int a, int b, int c, int d) {
        if (!isNode(act)) return BAD;
        List<Visit> visits = all();
        if (visits == null) return SPENT;
        if (!isAct(act)) return met(3);
        long[] p = {a, b, c, d};
        return visits.stream().anyMatch(v -> v.act.number == act && Arrays.equals(v.p, p)) ? 1 : 0;
    }

    public int points(int act) {
        if (!isNode(act)) return BAD;
        List<Visit> visits = all();
        if (visits == null) return SPENT;
        if (!isAct(act)) return met(3);
        HashSet<List<Long>> points = new HashSet<>();
        for (Visit v : visits) if (v.act.number == act) points.add(List.of(v.p[0], v.p[1], v.p[2], v.p[3]));
        return points.size();
    }

    public int needs(int from, int to, int kind) {
        if (!isNode(from) || !isNode(to) || kind < 0 || kind > 2) return BAD;
        List<Visit> visits = all();
        if (visits == null) return SPENT;
        if (!isAct(from) || !isAct(to)) return met(3);
        return (int) allNeeds(visits).stream()
            .filter(n -> n.kind == kind && n.v.act.number == from && n.w.act.number == to).count();
    }

    public int carried(int depth) {
        if (depth != NONE && (depth < 0 || depth > 3)) return BAD;
        List<Visit> visits = all();
        if (visits == null) return SPENT;
        return (int) allNeeds(visits).stream().filter(n -> carrier(n) == depth).count();
    }

    public int distance(int from, int to, int d, boolean most) {
        if (!isNode(from) || !isNode(to) || d < 0 || d > 3) return BAD;
        List<Visit> visits = all();
        if (visits == null) return SPENT;
        if (!isAct(from) || !isAct(to)) return met(3);
        if (d >= common(nodes.get(from), nodes.get(to))) return BAD;
        List<Long> steps = new ArrayList<>();
        for (Need n : allNeeds(visits)) {
            if (n.v.act.number == from && n.w.act.number == to) steps.add(n.w.p[d] - n.v.p[d]);
        }
        if (steps.isEmpty()) return NONE;
        asked = most ? Collections.max(steps) : Collections.min(steps);
        return 1;
    }

    public int free(int loop) {
        if (!isNode(loop)) return BAD;
        List<Visit> visits = all();
        if (visits == null) return SPENT;
        if (!isLoop(loop)) return met(3);
        Node l = nodes.get(loop);
        int d = l.loops().size();
        for (Need n : allNeeds(visits)) {
            boolean in = n.v.act.loops().contains(l) && n.w.act.loops().contains(l);
            if (in && carrier(n) == d) return 0;
        }
        return 1;
    }

    // ---- 4

    List<List<Row>> takeOrders() {
        List<List<Row>> all = new ArrayList<>();
        for (Node a : acts()) {
            List<Row> rows = new ArrayList<>();
            for (Row r : a.order) rows.add(r.again());
            all.add(rows);
        }
        return all;
    }

    void setOrders(List<List<Row>> all) {
        int i = 0;
        for (Node a : acts()) a.order = all.get(i++);
    }

    /** Keeps what was ahead of a TURN. */
    int turned(List<List<Row>> before) {
        kept.addLast(before);
        if (kept.size() > 20) kept.removeFirst();
        return 1;
    }

    List<Node> actsIn(int loop, int letter) {
        List<Node> found = new ArrayList<>();
        for (Node a : acts()) {
            if (a.loops().contains(nodes.get(loop)) && a.loops().size() > letter) found.add(a);
        }
        return found;
    }

    int letterOf(int loop) { return nodes.get(loop).loops().size(); }

    static int loopRow(Node a, int d) {
        for (int i = 0; i < a.order.size(); i++) if (a.order.get(i).letter == d) return i;
        return -1;
    }

    static boolean tooFar(Node a) {
        for (Row r : a.order) for (int x : r.n) if (x > 100000 || x < -100000) return true;
        return false;
    }

    void doSwap(int loop, int e) {
        int d = letterOf(loop);
        for (Node a : actsIn(loop, e)) {
            Row x = a.order.get(loopRow(a, d));
            Row y = a.order.get(loopRow(a, e));
            int[] n = x.n;
            int width = x.width;
            x.n = y.n;
            x.width = y.width;
            y.n = n;
            y.width = width;
        }
    }

    void doBack(int loop) {
        int d = letterOf(loop);
        for (Node a : actsIn(loop, 0)) {
            int[] n = a.order.get(loopRow(a, d)).n;
            for (int i = 0; i < 5; i++) n[i] = -n[i];
        }
    }

    public int swap(int loop, int e) {
        if (!isNode(loop)) return BAD;
        if (!isLoop(loop)) return met(3);
        if (e <= letterOf(loop) || e > 3) return BAD;
        List<List<Row>> before = takeOrders();
        doSwap(loop, e);
        return turned(before);
    }

    public int lean(int loop, int e, int f) {
        if (!isNode(loop) || f < -20 || f > 20 || e < 0 || e > 3) return BAD;
        if (!isLoop(loop)) return met(3);
        int d = letterOf(loop);
        if (e == d) return BAD;
        List<List<Row>> before = takeOrders();
        boolean spent = false;
        for (Node a : actsIn(loop, e)) {
            int[] x = a.order.get(loopRow(a, d)).n;
            int[] y = a.order.get(loopRow(a, e)).n;
            for (int i = 0; i < 5; i++) x[i] += f * y[i];
            spent |= tooFar(a);
        }
        if (spent) {
            setOrders(before);
            return SPENT;
        }
        return turned(before);
    }

    public int back(int loop) {
        if (!isNode(loop)) return BAD;
        if (!isLoop(loop)) return met(3);
        List<List<Row>> before = takeOrders();
        doBack(loop);
        return turned(before);
    }

    public int shift(int act, int d, int k) {
        if (!isNode(act) || d < 0 || d > 3 || k < -400 || k > 400) return BAD;
        if (!isAct(act)) return met(3);
        Node a = nodes.get(act);
        if (d >= a.loops().size()) return BAD;
        List<List<Row>> before = takeOrders();
        a.order.get(loopRow(a, d)).n[0] += k;
        if (tooFar(a)) {
            setOrders(before);
            return SPENT;
        }
        return turned(before);
    }

    public int tile(int loop, int n, int w) {
        if (!isNode(loop) || n < 1 || n > 4 || w < 2 || w > 20) return BAD;
        if (!isLoop(loop)) return met(3);
        int d = letterOf(loop);
        List<List<Row>> before = takeOrders();
        boolean full = false;
        for (Node a : actsIn(loop, d + n - 1)) {
            List<Row> tiles = new ArrayList<>();
            for (int k = 0; k < n; k++) {
                Row r = a.order.get(loopRow(a, d + k)).again();
                r.letter = NONE;
                r.width *= w;
                full |= r.width > 400;
                tiles.add(r);
            }
            a.order.addAll(loopRow(a, d), tiles);
            full |= a.order.size() > 16;
        }
        if (full) {
            setOrders(before);
            return FULL;
        }
        return turned(before);
    }

    public int part(int loop) {
        if (!isNode(loop)) return BAD;
        if (!isLoop(loop)) return met(3);
        int d = letterOf(loop);
        List<List<Row>> before = takeOrders();
        boolean spent = false;
        for (Node a : actsIn(loop, 0)) {
            int[] n = a.order.get(loopRow(a, d) - 1).n;
            n[0] = 100 * n[0] + a.place(d + 1);
            spent |= tooFar(a);
        }
        if (spent) {
            setOrders(before);
            return SPENT;
        }
        return turned(before);
    }

    public int join(int loop, int other) {
        if (!isNode(loop) || !isNode(other)) return BAD;
        if (!isLoop(loop) || !isLoop(other)) return met(3);
        if (nodes.get(loop).parent != nodes.get(other).parent || other <= loop) return BAD;
        if (actsIn(loop, 0).isEmpty()) return BAD;
        int d = letterOf(loop);
        List<List<Row>> before = takeOrders();
        Node first = actsIn(loop, 0).get(0);
        int number = first.order.get(loopRow(first, d) - 1).n[0];
        for (Node a : actsIn(other, 0)) a.order.get(loopRow(a, d) - 1).n[0] = number;
        return turned(before);
    }

    public int undo() {
        if (kept.isEmpty()) return STATE;
        setOrders(kept.removeLast());
        return kept.size();
    }

    public int order(int act, int i, int what) {
        if (!isNode(act) || what < 0 || what > 6) return BAD;
        if (!isAct(act)) return met(3);
        if (i < 0 || i >= nodes.get(act).order.size()) return NONE;
        Row r = nodes.get(act).order.get(i);
        return what == 5 ? r.width : what == 6 ? r.letter : 1000000 + r.n[what];
    }

    static List<Long> time(Visit v) {
        List<Long> time = new ArrayList<>();
        for (Row r : v.act.order) {
            long t = r.n[0];
            for (int d = 0; d < 4; d++) t += r.n[1 + d] * v.p[d];
            time.add(Math.floorDiv(t, (long) r.width));
        }
        return time;
    }

    List<Visit> newOrder(List<Visit> visits) {
        List<List<Long>> times = new ArrayList<>();
        for (Visit v : visits) times.add(time(v));
        List<Visit> sorted = new ArrayList<>(visits);
        sorted.sort((v, w) -> {
            List<Long> a = times.get(v.number);
            List<Long> b = times.get(w.number);
            for (int i = 0; i < a.size() && i < b.size(); i++) {
                int c = Long.compare(a.get(i), b.get(i));
                if (c != 0) return c;
            }
            return a.size() != b.size() ? Integer.compare(a.size(), b.size()) : Integer.compare(v.number, w.number);
        });
        return sorted;
    }

    /** The first NEED that is not kept, null if there is none. */
    Need broken(List<Visit> visits) {
        int[] at = new int[visits.size()];
        int i = 0;
        for (Visit v : newOrder(visits)) at[v.number] = i++;
        for (Need n : allNeeds(visits)) if (at[n.v.number] > at[n.w.number]) return n;
        return null;
    }

    public int allowed() {
        List<Visit> visits = all();
        if (visits == null) return SPENT;
        return broken(visits) == null ? 1 : 0;
    }

    public int why(int what) {
        if (what < 0 || what > 2) return BAD;
        List<Visit> visits = all();
        if (visits == null) return SPENT;
        Need n = broken(visits);
        return n == null ? NONE : new int[] {n.v.number, n.w.number, n.kind}[what];
    }

    // ---- 5

    int perform(Visit v) {
        long[] got = new long[3];
        for (int which = 1; which < 3; which++) {
            List<Long> t = touched(v, which);
            if (t == null) continue;
            int lack = lack(t.get(0).intValue(), t.get(1), t.get(2));
            if (lack != 0) return lack;
            got[which] = arrays.get(t.get(0).intValue())[t.get(1).intValue()][t.get(2).intValue()];
        }
        int sort = v.act.first;
        int k = v.act.second;
        if (sort == 3 && got[2] == 0) return 4;
        long out = sort == 0 ? got[1] : sort == 1 ? got[1] + got[2] : sort == 2 ? got[1] * got[2]
            : sort == 3 ? got[1] / got[2] : sort == 4 ? k : got[1] + k;
        List<Long> t = touched(v, 0);
        if (t == null) return 0;
        int lack = lack(t.get(0).intValue(), t.get(1), t.get(2));
        if (lack != 0) return lack;
        store(t.get(0).intValue(), t.get(1), t.get(2), out);
        return 0;
    }

    public int run(boolean fresh) {
        List<Visit> visits = all();
        if (visits == null) return SPENT;
        int done = 0;
        for (Visit v : fresh ? newOrder(visits) : visits) {
            int lack = perform(v);
            if (lack != 0) {
                endedOf = new int[] {done, v.act.number, 0, 0, 0, 0};
                for (int d = 0; d < 4; d++) endedOf[2 + d] = (int) (100000 + v.p[d]);
                return met(lack);
            }
            done++;
        }
        endedOf = new int[] {done, NONE, NONE, NONE, NONE, NONE};
        return done;
    }

    public int ended(int what) {
        return what < 0 || what > 5 ? BAD : endedOf[what];
    }

    int fetches(List<Visit> visits, int n, int w) {
        LinkedList<List<Long>> room = new LinkedList<>();
        int found = 0;
        for (Visit v : newOrder(visits)) {
            for (int which : new int[] {1, 2, 0}) {
                List<Long> t = touched(v, which);
                if (t == null) continue;
                List<Long> piece = List.of(t.get(0), t.get(1), Math.floorDiv(t.get(2), (long) w));
                if (!room.remove(piece)) found++;
                room.addFirst(piece);
                if (room.size() > n) room.removeLast();
            }
        }
        return found;
    }

    public int fetched(int n, int w) {
        if (n < 1 || n > 16 || w < 1 || w > 20) return BAD;
        List<Visit> visits = all();
        return visits == null ? SPENT : fetches(visits, n, w);
    }

    public int best(int loop, int n, int w) {
        if (!isNode(loop) || n < 1 || n > 16 || w < 1 || w > 20) return BAD;
        List<Visit> visits = all();
        if (visits == null) return SPENT;
        if (!isLoop(loop)) return met(3);
        int fewest = Integer.MAX_VALUE;
        List<List<Row>> chosen = null;
        boolean isNone = false;
        for (int e = letterOf(loop); e <= 4; e++) {
            List<List<Row>> before = takeOrders();
            if (e == 4) doBack(loop);
            else if (e > letterOf(loop)) doSwap(loop, e);
            if (broken(visits) == null && fetches(visits, n, w) < fewest) {
                fewest = fetches(visits, n, w);
                chosen = takeOrders();
                isNone = e == letterOf(loop);
            }
            setOrders(before);
        }
        if (chosen == null) return NONE;
        if (!isNone) {
            turned(takeOrders());
            setOrders(chosen);
        }
        return fewest;
    }

    /** Of each LINE the ten numbers that written() tells. */
    List<long[]> allLines(List<Visit> visits) {
        List<Visit> order = newOrder(visits);
        List<long[]> lines = new ArrayList<>();
        int i = 0;
        while (i < order.size()) {
            Visit first = order.get(i);
            long[] line = new long[10];
            line[0] = first.act.number;
            for (int d = 0; d < 4; d++) line[1 + d] = first.p[d];
            line[9] = 1;
            i++;
            while (i < order.size() && order.get(i).act == first.act) {
                long[] step = new long[4];
                for (int d = 0; d < 4; d++) step[d] = order.get(i).p[d] - order.get(i - 1).p[d];
                if (line[9] == 1) System.arraycopy(step, 0, line, 5, 4);
                if (!Arrays.equals(step, Arrays.copyOfRange(line, 5, 9))) break;
                line[9]++;
                i++;
            }
            lines.add(line);
        }
        return lines;
    }

    public int lines() {
        List<Visit> visits = all();
        return visits == null ? SPENT : allLines(visits).size();
    }

    public int written(int i, int what) {
        if (what < 0 || what > 9) return BAD;
        List<Visit> visits = all();
        if (visits == null) return SPENT;
        List<long[]> lines = allLines(visits);
        if (i < 0 || i >= lines.size()) return NONE;
        asked = lines.get(i)[what];
        return 1;
    }

    // ---- 6

    public int count(int what) {
        if (what < 0 || what > 4) return BAD;
        return new int[] {sums.size(), nodes.size(), acts().size(), arrays.size(), kept.size()}[what];
    }

    public int finding() { return finding; }

    public int findings(int f) { return f < 1 || f > 5 ? BAD : findings[f]; }

    public long digest() {
        List<Long> all = new ArrayList<>();
        for (int s : sizes) all.add((long) s);
        for (Node n : nodes) for (int what = 0; what < 5; what++) all.add((long) node(n.number, what));
        for (Node a : acts()) {
            for (Row r : a.order) {
                for (int x : r.n) all.add((long) x);
                all.add((long) r.width);
                all.add((long) r.letter);
            }
        }
        for (long[][] rows : arrays) {
            for (long[] row : rows) {
                all.add(row == null ? -1L : row.length);
                if (row != null) for (long x : row) all.add(x);
            }
        }
        long h = 17;
        for (long v : all) h = 31 * h + v;
        return h;
    }
}
