import java.lang.reflect.Method;
import java.util.ArrayList;
import java.util.Arrays;
import java.util.Comparator;
import java.util.List;
import java.util.Random;

/** Random runs of calls on LoopLoom and on Model, which have to answer alike; the seeds are fixed. */
public final class ModelTest {
    private static final String[] BUILD = {"term", "term", "sum", "sum", "loop", "loop", "test", "act", "act",
        "aim", "aim", "aim", "aim", "array", "row", "row", "row", "lay", "size"};
    private static final String[] TURNS = {"swap", "lean", "back", "shift", "tile", "part", "join", "undo", "best"};
    private static final String[] ASK = {"visits", "visit", "has", "points", "needs", "carried", "distance", "free",
        "allowed", "why", "run", "ended", "fetched", "lines", "written", "order"};
    private static final String[] POCKETS = {"hold", "note", "note", "held", "noted", "noted", "copy", "copy"};

    private final Random random;
    private final LoopLoom loom = new LoopLoom();
    private final Model model = new Model();
    private final List<String> calls = new ArrayList<>();
    private final Method[] methods;

    private ModelTest(long seed) {
        random = new Random(seed);
        List<Method> own = new ArrayList<>();
        for (Method m : LoopLoom.class.getDeclaredMethods()) {
            if (java.lang.reflect.Modifier.isPublic(m.getModifiers())) own.add(m);
        }
        own.sort(Comparator.comparing(Method::getName));
        methods = own.toArray(new Method[0]);
    }

    private int below(int n) { return n <= 0 ? 0 : random.nextInt(n); }

    /** Mostly one of those there are, sometimes one beside them. */
    private int oneOf(int n) {
        int r = below(25);
        if (r == 0) return n;
        if (r == 1) return -1;
        return below(n);
    }

    private int between(int low, int high) {
        int r = below(30);
        if (r == 0) return low - 1;
        if (r == 1) return high + 1;
        if (r == 2) return low;
        if (r == 3) return high;
        return low + below(high - low + 1);
    }

    private int small() { return below(20) == 0 ? between(-1000, 1000) : below(7) - 3; }

    private int nodeOf(int low, int high) {
        List<Integer> found = new ArrayList<>();
        for (Model.Node n : model.nodes) if (n.kind >= low && n.kind <= high) found.add(n.number);
        if (found.isEmpty() || below(15) == 0) return oneOf(model.nodes.size());
        return found.get(below(found.size()));
    }

    private int loop() { return nodeOf(0, 1); }
    private int act() { return nodeOf(3, 3); }
    private int parent() { return below(6) == 0 ? -9 : nodeOf(0, 2); }

    /** Mostly a SUM that may stand with so many LOOPS around, as random ones seldom may. */
    private int sumFor(int loops) {
        for (int k = 0; k < 8; k++) {
            int s = below(model.sums.size());
            if (model.lettersFit(s, loops)) return s;
        }
        return oneOf(model.sums.size());
    }

    private int loopsIn(int parent) {
        return model.badParent(parent) ? 0 : model.around(parent);
    }

    private int loopsOf(int act) {
        return model.isNode(act) ? model.nodes.get(act).loops().size() : 0;
    }

    private Object[] arguments(String name) {
        int nodes = model.nodes.size();
        int arrays = model.arrays.size();
        boolean flag = random.nextBoolean();
        int p = parent();
        int a = act();
        switch (name) {
            case "size": return new Object[] {oneOf(3), below(6) == 0 ? between(-400, 400) : between(-1, 6)};
            case "term": return new Object[] {below(3) == 0 ? 0 : oneOf(8), below(3) == 0 ? 1 : small()};
            case "loop": return new Object[] {p, sumFor(loopsIn(p)), sumFor(loopsIn(p)), flag};
            case "test": return new Object[] {p, sumFor(loopsIn(p)), below(20) == 0 ? between(0, 1000) : below(4)};
            case "act": return new Object[] {p, oneOf(6), below(9) == 0 ? random.nextInt() : small()};
            case "aim": return new Object[] {a, oneOf(3), oneOf(arrays), sumFor(loopsOf(a)), sumFor(loopsOf(a))};
            case "node": return new Object[] {oneOf(nodes), oneOf(5)};
            case "hold": return new Object[] {few(nodes), below(6) == 0 ? -9 : oneOf(nodes)};
            case "note": return new Object[] {few(nodes), between(0, 12)};
            case "held": return new Object[] {few(nodes), oneOf(4)};
            case "noted": return new Object[] {few(nodes), between(0, 6), below(3) == 0 ? random.nextInt() : small()};
            case "copy": return new Object[] {few(nodes), oneOf(6), few(nodes), oneOf(6), wild(oneOf(6))};
            case "array": return new Object[] {oneOf(4), between(0, 20)};
            case "row": return new Object[] {oneOf(arrays), between(0, 7), between(0, 20)};
            case "tear": return new Object[] {oneOf(arrays), between(0, 7)};
            case "lay": return new Object[] {oneOf(arrays), between(0, 7), between(0, 7),
                flag ? random.nextLong() : (long) small()};
            case "get": return new Object[] {oneOf(arrays), between(0, 7), between(0, 7)};
            case "visit": return new Object[] {oneOf(below(2) == 0 ? 20 : 400), oneOf(5), flag};
            case "has": return new Object[] {a, small(), flag ? 0 : small(), flag ? 0 : small(), below(3) == 0 ? 1 : 0};
            case "points": return new Object[] {a};
            case "needs": return new Object[] {a, act(), oneOf(3)};
            case "carried": return new Object[] {below(4) == 0 ? -9 : oneOf(4)};
            case "distance": return new Object[] {a, act(), below(3) == 0 ? oneOf(4) : below(2), flag};
            case "free": case "back": case "part": return new Object[] {loop()};
            case "swap": return new Object[] {loop(), below(2) + below(3)};
            case "lean": return new Object[] {loop(), oneOf(4), below(3) == 0 ? between(-20, 20) : small()};
            case "shift": return new Object[] {a, below(2) == 0 ? 0 : oneOf(4), below(3) == 0 ? between(-400, 400) : small()};
            case "tile": return new Object[] {loop(), below(3) == 0 ? between(1, 4) : 1 + below(2), between(2, 20)};
            case "join": return new Object[] {loop(), loop()};
            case "order": return new Object[] {a, between(0, 9), oneOf(7)};
            case "why": return new Object[] {oneOf(3)};
            case "run": return new Object[] {flag};
            case "ended": return new Object[] {oneOf(6)};
            case "fetched": return new Object[] {between(1, 16), between(1, 20)};
            case "best": return new Object[] {loop(), between(1, 16), between(1, 20)};
            case "written": return new Object[] {oneOf(20), oneOf(10)};
            case "count": return new Object[] {oneOf(5)};
            case "findings": return new Object[] {between(1, 5)};
            default: return new Object[0];
        }
    }

    /** POCKETS of few NODES, so that calls on them meet. */
    private int few(int nodes) { return oneOf(Math.min(nodes, 3)); }

    private int wild(int v) { return below(20) == 0 ? Integer.MAX_VALUE : below(20) == 0 ? Integer.MIN_VALUE : v; }

    private Object[] wildArguments(Method m) {
        int[] edges = {Integer.MIN_VALUE, Integer.MAX_VALUE, -9, -1, 0, 1, 2, 3, 40, 401, 100000};
        Class<?>[] types = m.getParameterTypes();
        Object[] values = new Object[types.length];
        for (int i = 0; i < types.length; i++) {
            int v = edges[below(edges.length)];
            values[i] = types[i] == int.class ? v : types[i] == long.class ? (Object) (long) v : (Object) (v > 1);
        }
        return values;
    }

    private boolean agree(String name, boolean isWild) throws Exception {
        Method m = null;
        for (Method one : methods) if (one.getName().equals(name)) m = one;
        return same(m, isWild ? wildArguments(m) : arguments(name));
    }

    private boolean same(Method m, Object[] values) throws Exception {
        Method other = Model.class.getMethod(m.getName(), m.getParameterTypes());
        Object want = other.invoke(model, values);
        Object got = m.invoke(loom, values);
        calls.add(m.getName() + Arrays.toString(values) + " -> " + got);
        if (got.equals(want)) return true;
        for (String call : calls) System.out.println(call);
        System.out.println("due is " + want);
        return false;
    }

    /** A call while the frame is built: both are told the same. */
    private int tell(String name, Object... values) throws Exception {
        for (Method m : methods) {
            if (m.getName().equals(name) && !same(m, values)) throw new IllegalStateException("not alike: " + name);
        }
        return model.nodes.size() - 1;
    }

    private String pick(String[] names) { return names[below(names.length)]; }

    private void draft(int... pairs) throws Exception {
        for (int i = 0; i < pairs.length; i += 2) tell("term", pairs[i], pairs[i + 1]);
        tell("sum");
    }

    /** Some nests of LOOPS with ACTS in them, so that there is something to ask about. */
    private void frame() throws Exception {
        draft(0, 1);
        draft(0, 1 + below(5));
        draft(1, 1);
        for (int d = 0; d < 4; d++) {
            draft(4 + d, 1);
            draft(4 + d, 1, 0, below(2) * 2 - 1);
        }
        draft(4, 1, 5, 1);
        draft(4, 1, 5, -1);
        draft(6, 1, 5, -1, 0, 2);
        draft(below(8), small(), below(8), small());
        tell("size", 0, 1 + below(4));
        int arrays = 1 + below(2);
        for (int a = 0; a < arrays; a++) {
            int rows = 4 + below(8);
            tell("array", below(4), rows);
            for (int i = 0; i < rows; i++) if (below(40) != 0) tell("row", a, i, 4 + below(8));
        }
        int tops = 1 + below(3);
        for (int t = 0; t < tops; t++) nest(-9, below(4));
    }

    private void nest(int parent, int deeper) throws Exception {
        int at = parent;
        if (below(6) == 0) at = tell("test", at, sumFor(loopsIn(at)), below(4));
        at = tell("loop", at, below(3) == 0 ? sumFor(loopsIn(at)) : below(2), below(5) == 0 ? sumFor(loopsIn(at)) : 2 + below(2),
            random.nextBoolean());
        if (deeper == 0 || below(3) == 0) acts(at);
        if (below(5) == 0) acts(tell("test", at, sumFor(loopsIn(at)), below(4)));
        if (deeper > 0) nest(at, deeper - 1);
        if (deeper > 0 && below(4) == 0) nest(at, 0);
        if (below(4) == 0) acts(at);
    }

    private void acts(int parent) throws Exception {
        if (model.badParent(parent)) return;
        int n = tell("act", parent, below(6), small());
        int arrays = model.arrays.size();
        for (int which = 0; which < 3; which++) {
            if (!model.isAct(n) || below(4) == 0) continue;
            tell("aim", n, which, below(arrays), sumFor(loopsOf(n)), sumFor(loopsOf(n)));
        }
    }

    private boolean play() throws Exception {
        boolean hasFrame = below(6) != 0;
        if (hasFrame) frame();
        int building = hasFrame ? below(3) * 4 : 60;
        int change = below(6);
        for (int k = 0; k < 120; k++) {
            int r = below(100);
            boolean isWild = below(60) == 0;
            String name = k < building || r < change ? pick(BUILD)
                : r < 30 ? pick(TURNS) : r < 80 ? pick(ASK) : r < 90 ? pick(POCKETS) : methods[below(methods.length)].getName();
            if (!agree(name, isWild)) return false;
            if (!agree("asked", false) || !agree("finding", false)) return false;
            if (k % 16 == 0 && !agree("digest", false)) return false;
        }
        return agree("digest", false);
    }

    public static void main(String[] args) throws Exception {
        long runs = args.length > 0 ? Long.parseLong(args[0]) : 400;
        long from = args.length > 1 ? Long.parseLong(args[1]) : 1;
        for (long seed = from; seed < from + runs; seed++) {
            if (!new ModelTest(seed).play()) {
                System.out.println("seed " + seed + ": the last call is not answered as due");
                System.exit(1);
            }
        }
        System.out.println(runs + " runs are answered alike");
    }
}
