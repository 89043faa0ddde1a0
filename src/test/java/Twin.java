/**
 * Two objects that were made alike, and a refused call on one of them: all
 * that can be asked of both, and what can be done with both, is alike behind
 * it. That takes some 230 calls, and no object may be used for more than 512.
 */
final class Twin {
    interface Recipe {
        LoopLoom make();
    }

    interface Call {
        int on(LoopLoom x);
    }

    private final StringBuilder told = new StringBuilder();
    private final LoopLoom x;

    private Twin(LoopLoom x) {
        this.x = x;
    }

    static void refused(String name, Recipe recipe, int answer, Call call) {
        if (answer == Check.FINDING) throw new IllegalArgumentException("which FINDING?");
        compare(name, recipe, call, answer, 0);
    }

    static void met(String name, Recipe recipe, int finding, Call call) {
        compare(name, recipe, call, Check.FINDING, finding);
    }

    private static void compare(String name, Recipe recipe, Call call, int answer, int finding) {
        LoopLoom one = recipe.make();
        LoopLoom other = recipe.make();
        Check.due(name, call.on(one), answer);
        Check.due(name + ", then finding()", one.finding(), finding > 0 ? finding : other.finding());
        for (int f = 1; f <= 5; f++) {
            int more = f == finding ? 1 : 0;
            Check.due(name + ", then findings(" + f + ")", one.findings(f), other.findings(f) + more);
        }
        String[] got = all(one).split(" ");
        String[] want = all(other).split(" ");
        for (int i = 0; i < want.length; i++) {
            Check.due(name + ", then thing " + i + " that can be asked", Long.parseLong(got[i]), Long.parseLong(want[i]));
        }
    }

    /** All that can be asked of an object, which is changed by that. */
    private static String all(LoopLoom x) {
        Twin t = new Twin(x);
        t.numbers();
        t.program();
        t.pockets();
        t.draft();
        t.turns();
        return t.told.toString();
    }

    private void tell(long v) {
        told.append(v).append(' ');
    }

    private void numbers() {
        tell(x.asked());
        for (int what = 0; what < 6; what++) tell(x.ended(what));
        for (int what = 0; what < 5; what++) tell(x.count(what));
        tell(x.digest());
    }

    /** By runs the AIMS are seen, too. */
    private void program() {
        tell(x.visits());
        tell(x.allowed());
        for (int what = 0; what < 3; what++) tell(x.why(what));
        for (int depth = 0; depth < 4; depth++) tell(x.carried(depth));
        tell(x.carried(Check.NONE));
        tell(x.fetched(2, 3));
        tell(x.lines());
        for (int i = 0; i < 12; i++) {
            tell(x.visit(i, 0, true));
            tell(x.visit(i, 1, true));
            tell(x.visit(i, 2, false));
        }
        for (int k = 0; k < 2; k++) {
            tell(x.run(k == 0));
            for (int what = 0; what < 6; what++) tell(x.ended(what));
            tell(x.digest());
        }
    }

    private void pockets() {
        for (int node = 0; node < 5; node++) {
            for (int kind = 0; kind < 4; kind++) tell(x.held(node, kind));
            for (int i = 0; i < 13; i++) tell(x.noted(node, i, 77));
        }
    }

    /** The terms of the draft are seen by the place that is written in the innermost LOOP of a recipe. */
    private void draft() {
        int s = x.sum();
        tell(s);
        tell(x.aim(Recipes.INNER_ACT, 0, 0, 0, s));
        tell(x.run(false));
        for (int what = 0; what < 6; what++) tell(x.ended(what));
        tell(x.digest());
        tell(x.sum());
        tell(x.count(0));
    }

    private void turns() {
        for (int k = 0; k < 22; k++) {
            tell(x.undo());
            tell(x.digest());
        }
        tell(x.finding());
        tell(x.count(4));
    }
}
