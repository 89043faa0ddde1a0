/**
 * "What is refused changes nothing but finding(), findings(), and as told":
 * each way in which a call can be refused, with the state in which it is.
 */
public final class RefusedTest {
    public static void main(String[] args) {
        sums();
        nodes();
        aims();
        pockets();
        notes();
        arrays();
        bodies();
        spentBodies();
        turns();
        turnsOfActs();
        turnsThatAreFull();
        orders();
        runs();
        told();
        Check.end();
    }

    private static void promise(int number) {
        Check.sentence("promise " + number, "What is refused changes nothing but finding(), findings(), and as told");
    }

    private static void bad(String name, Twin.Call call) {
        Twin.refused(name, Recipes::rich, Check.BAD, call);
    }

    private static void none(String name, Twin.Call call) {
        Twin.refused(name, Recipes::rich, Check.NONE, call);
    }

    private static void met(String name, int finding, Twin.Call call) {
        Twin.met(name, Recipes::rich, finding, call);
    }

    private static void full(String name, Twin.Call call) {
        Twin.refused(name, Recipes::full, Check.FULL, call);
    }

    private static void badOfFull(String name, Twin.Call call) {
        Twin.refused(name, Recipes::full, Check.BAD, call);
    }

    private static void spent(String name, Twin.Call call) {
        Twin.refused(name, Recipes::spent, Check.SPENT, call);
    }

    private static void badOfSpent(String name, Twin.Call call) {
        Twin.refused(name, Recipes::spent, Check.BAD, call);
    }

    private static void sums() {
        promise(2);
        Twin.refused("size(-1, 5)", Recipes::rich, -1000, x -> x.size(-1, 5));
        Twin.refused("size(3, 5)", Recipes::rich, -1000, x -> x.size(3, 5));
        for (int which = 0; which < 3; which++) {
            int w = which;
            Twin.refused("size(" + w + ", 401)", Recipes::rich, -1000, x -> x.size(w, 401));
            Twin.refused("size(" + w + ", -401)", Recipes::rich, -1000, x -> x.size(w, -401));
        }
        promise(3);
        bad("term(-1, 5)", x -> x.term(-1, 5));
        bad("term(8, 5)", x -> x.term(8, 5));
        for (int which = 0; which < 8; which++) {
            int w = which;
            bad("term(" + w + ", 1001)", x -> x.term(w, 1001));
            bad("term(" + w + ", -1001)", x -> x.term(w, -1001));
        }
        promise(4);
        full("sum()", x -> x.sum());
    }

    private static void nodes() {
        promise(5);
        bad("loop in an ACT", x -> x.loop(5, 0, 0, false));
        bad("loop in no NODE", x -> x.loop(10, 0, 0, false));
        bad("loop from no SUM", x -> x.loop(0, 6, 0, false));
        bad("loop to no SUM", x -> x.loop(0, 0, -1, true));
        bad("a fifth loop", x -> x.loop(4, 0, 0, false));
        bad("loop with its own LETTER", x -> x.loop(Check.NONE, 0, 4, false));
        full("loop", x -> x.loop(Check.NONE, 0, 0, false));
        full("side", x -> x.loop(0, 0, 0, true));
        badOfFull("BAD ahead of FULL", x -> x.loop(4, 0, 0, false));
        promise(6);
        bad("test in an ACT", x -> x.test(5, 0, 0));
        bad("test of no SUM", x -> x.test(0, 6, 0));
        bad("test with m -1", x -> x.test(0, 0, -1));
        bad("test with m 1001", x -> x.test(0, 0, 1001));
        bad("test with a LETTER", x -> x.test(0, 5, 0));
        full("test", x -> x.test(0, 0, 0));
        badOfFull("BAD ahead of FULL", x -> x.test(0, 0, 1001));
        promise(7);
        bad("act in an ACT", x -> x.act(6, 0, 0));
        bad("act of sort -1", x -> x.act(0, -1, 0));
        bad("act of sort 6", x -> x.act(0, 6, 0));
        full("act", x -> x.act(0, 0, 0));
        badOfFull("BAD ahead of FULL", x -> x.act(0, 6, 0));
        Twin.refused("a thirteenth act", Recipes::acts, Check.FULL, x -> x.act(Check.NONE, 0, 0));
        promise(9);
        bad("node(10, 0)", x -> x.node(10, 0));
        bad("node(0, 5)", x -> x.node(0, 5));
    }

    private static void aims() {
        promise(8);
        bad("aim of no NODE", x -> x.aim(10, 0, 0, 0, 0));
        bad("AIM 3", x -> x.aim(5, 3, 0, 0, 0));
        bad("AIM -1", x -> x.aim(5, -1, 0, 0, 0));
        bad("no ARRAY", x -> x.aim(5, 0, 2, 0, 0));
        bad("no SUM for the row", x -> x.aim(5, 0, 0, 6, 0));
        bad("no SUM for the place", x -> x.aim(5, 0, 0, 0, 6));
        bad("a LETTER for the row", x -> x.aim(6, 0, 0, 5, 0));
        bad("a LETTER for the place", x -> x.aim(6, 1, 0, 0, 5));
        for (int node = 0; node < 3; node++) {
            int n = node;
            met("aim of a LOOP, a SIDE, a TEST", Check.UNLIKE, x -> x.aim(n, 0, 0, 0, 0));
        }
    }

    private static void pockets() {
        promise(10);
        for (int node = 0; node < 5; node++) {
            int n = node;
            bad("hold(" + n + ", itself)", x -> x.hold(n, n));
            bad("hold(" + n + ", 10)", x -> x.hold(n, 10));
            bad("hold(" + n + ", -1)", x -> x.hold(n, -1));
        }
        bad("hold(10, 0)", x -> x.hold(10, 0));
        bad("hold(10, NONE)", x -> x.hold(10, Check.NONE));
        promise(11);
        for (int node = 0; node < 5; node++) {
            int n = node;
            bad("note(" + n + ", 13)", x -> x.note(n, 13));
            met("note(" + n + ", -1)", Check.SIZE, x -> x.note(n, -1));
        }
        bad("note(10, 1)", x -> x.note(10, 1));
        promise(12);
        bad("held(0, -1)", x -> x.held(0, -1));
        bad("held(0, 4)", x -> x.held(0, 4));
        bad("held(10, 0)", x -> x.held(10, 0));
        met("a note", Check.UNLIKE, x -> x.held(1, 0));
        met("another KIND", Check.UNLIKE, x -> x.held(0, 1));
        met("nothing", Check.NOTHING, x -> x.held(2, 0));
    }

    private static void notes() {
        promise(13);
        bad("noted(10, 0, 1)", x -> x.noted(10, 0, 1));
        met("nothing", Check.NOTHING, x -> x.noted(2, 0, 1));
        met("a NODE", Check.UNLIKE, x -> x.noted(0, 0, 1));
        met("noted(1, 3, 1)", Check.BEYOND, x -> x.noted(1, 3, 1));
        met("noted(1, -1, 1)", Check.BEYOND, x -> x.noted(1, -1, 1));
        met("noted(3, 0, 1)", Check.BEYOND, x -> x.noted(3, 0, 1));
        met("noted(4, 12, 1)", Check.BEYOND, x -> x.noted(4, 12, 1));
        promise(14);
        bad("copy of no NODE", x -> x.copy(10, 0, 1, 0, 1));
        bad("copy to no NODE", x -> x.copy(1, 0, 10, 0, 1));
        met("the first holds a NODE", Check.UNLIKE, x -> x.copy(0, 0, 1, 0, 1));
        met("the other holds a NODE", Check.UNLIKE, x -> x.copy(1, 0, 0, 0, 1));
        met("the first holds nothing", Check.NOTHING, x -> x.copy(2, 0, 1, 0, 1));
        met("the other holds nothing", Check.NOTHING, x -> x.copy(1, 0, 2, 0, 1));
        met("not so many in the first", Check.BEYOND, x -> x.copy(1, 1, 4, 0, 3));
        met("not so many in the other", Check.BEYOND, x -> x.copy(4, 9, 1, 1, 3));
        met("a place below 0", Check.BEYOND, x -> x.copy(4, -1, 1, 0, 2));
        met("a place below 0", Check.BEYOND, x -> x.copy(4, 10, 1, -1, 2));
        met("n below 0", Check.BEYOND, x -> x.copy(4, 10, 1, 1, -1));
    }

    private static void arrays() {
        promise(15);
        bad("array(-1, 1)", x -> x.array(-1, 1));
        bad("array(4, 1)", x -> x.array(4, 1));
        bad("array(0, 21)", x -> x.array(0, 21));
        met("array(0, -1)", Check.SIZE, x -> x.array(0, -1));
        full("array(0, 1)", x -> x.array(0, 1));
        full("FULL ahead of SIZE", x -> x.array(0, -1));
        badOfFull("BAD ahead of FULL", x -> x.array(0, 21));
        promise(16);
        bad("row(2, 0, 1)", x -> x.row(2, 0, 1));
        bad("row(0, 0, 21)", x -> x.row(0, 0, 21));
        met("row(0, 3, 1)", Check.BEYOND, x -> x.row(0, 3, 1));
        met("row(0, -1, 1)", Check.BEYOND, x -> x.row(0, -1, 1));
        met("row(0, 0, -1)", Check.SIZE, x -> x.row(0, 0, -1));
        met("row(0, 1, -1) of a row that is missing", Check.SIZE, x -> x.row(0, 1, -1));
        promise(17);
        bad("tear(2, 0)", x -> x.tear(2, 0));
        met("tear(0, 3)", Check.BEYOND, x -> x.tear(0, 3));
        met("tear(0, -1)", Check.BEYOND, x -> x.tear(0, -1));
        promise(18);
        bad("lay(2, 0, 0, 9)", x -> x.lay(2, 0, 0, 9));
        met("lay(0, 3, 0, 9)", Check.BEYOND, x -> x.lay(0, 3, 0, 9));
        met("lay(0, 1, 0, 9)", Check.NOTHING, x -> x.lay(0, 1, 0, 9));
        met("lay(0, 2, 3, 9)", Check.BEYOND, x -> x.lay(0, 2, 3, 9));
        met("lay(0, 2, -1, 9)", Check.BEYOND, x -> x.lay(0, 2, -1, 9));
        promise(19);
        bad("get(2, 0, 0)", x -> x.get(2, 0, 0));
        met("get(0, 3, 0)", Check.BEYOND, x -> x.get(0, 3, 0));
        met("get(0, 1, 0)", Check.NOTHING, x -> x.get(0, 1, 0));
        met("get(0, 0, 20)", Check.BEYOND, x -> x.get(0, 0, 20));
    }

    private static void bodies() {
        promise(22);
        bad("visit(0, 5, false)", x -> x.visit(0, 5, false));
        none("visit(10, 0, false)", x -> x.visit(10, 0, false));
        none("visit(-1, 0, true)", x -> x.visit(-1, 0, true));
        promise(23);
        bad("has(10, ..)", x -> x.has(10, 0, 0, 0, 0));
        met("has(0, ..)", Check.UNLIKE, x -> x.has(0, 0, 0, 0, 0));
        promise(24);
        bad("points(10)", x -> x.points(10));
        met("points(2)", Check.UNLIKE, x -> x.points(2));
        promise(25);
        bad("needs(10, 5, 0)", x -> x.needs(10, 5, 0));
        bad("needs(5, 10, 0)", x -> x.needs(5, 10, 0));
        bad("needs(5, 5, 3)", x -> x.needs(5, 5, 3));
        met("needs(0, 5, 0)", Check.UNLIKE, x -> x.needs(0, 5, 0));
        met("needs(5, 1, 0)", Check.UNLIKE, x -> x.needs(5, 1, 0));
        promise(26);
        bad("carried(4)", x -> x.carried(4));
        promise(27);
        bad("distance(10, 5, 0, true)", x -> x.distance(10, 5, 0, true));
        bad("distance(5, 5, 4, true)", x -> x.distance(5, 5, 4, true));
        bad("distance(5, 6, 1, true)", x -> x.distance(5, 6, 1, true));
        met("distance(5, 0, 1, true)", Check.UNLIKE, x -> x.distance(5, 0, 1, true));
        none("distance(9, 9, 0, true)", x -> x.distance(9, 9, 0, true));
        promise(28);
        bad("free(10)", x -> x.free(10));
        met("free(5)", Check.UNLIKE, x -> x.free(5));
        met("free(2)", Check.UNLIKE, x -> x.free(2));
    }

    private static void spentBodies() {
        promise(21);
        spent("visits()", x -> x.visits());
        promise(22);
        spent("visit(0, 0, true)", x -> x.visit(0, 0, true));
        badOfSpent("BAD ahead of SPENT", x -> x.visit(0, 5, true));
        promise(23);
        spent("SPENT ahead of UNLIKE", x -> x.has(0, 0, 0, 0, 0));
        promise(24);
        spent("SPENT ahead of UNLIKE", x -> x.points(0));
        promise(25);
        spent("SPENT ahead of UNLIKE", x -> x.needs(0, 5, 0));
        promise(26);
        spent("carried(0)", x -> x.carried(0));
        promise(27);
        spent("SPENT ahead of UNLIKE", x -> x.distance(5, 0, 0, true));
        promise(28);
        spent("SPENT ahead of UNLIKE", x -> x.free(5));
        promise(38);
        spent("allowed()", x -> x.allowed());
        promise(39);
        spent("why(0)", x -> x.why(0));
        badOfSpent("BAD ahead of SPENT", x -> x.why(3));
        promise(40);
        spent("run(false)", x -> x.run(false));
        spent("run(true)", x -> x.run(true));
        promise(42);
        spent("fetched(1, 1)", x -> x.fetched(1, 1));
        badOfSpent("BAD ahead of SPENT", x -> x.fetched(17, 1));
        promise(43);
        spent("SPENT ahead of UNLIKE", x -> x.best(5, 1, 1));
        spent("best(0, 1, 1)", x -> x.best(0, 1, 1));
        promise(44);
        spent("lines()", x -> x.lines());
        promise(45);
        spent("written(0, 0)", x -> x.written(0, 0));
    }

    private static void turns() {
        promise(29);
        bad("swap(10, 1)", x -> x.swap(10, 1));
        bad("swap(0, 0)", x -> x.swap(0, 0));
        bad("swap(0, 4)", x -> x.swap(0, 4));
        bad("swap(4, 3)", x -> x.swap(4, 3));
        met("swap(5, 3)", Check.UNLIKE, x -> x.swap(5, 3));
        met("UNLIKE ahead of BAD for e", Check.UNLIKE, x -> x.swap(2, 4));
        promise(30);
        bad("lean(10, 1, 1)", x -> x.lean(10, 1, 1));
        bad("lean(0, 1, 21)", x -> x.lean(0, 1, 21));
        bad("lean(0, 1, -21)", x -> x.lean(0, 1, -21));
        bad("lean(0, 4, 1)", x -> x.lean(0, 4, 1));
        bad("lean(0, -1, 1)", x -> x.lean(0, -1, 1));
        bad("lean(0, 0, 1)", x -> x.lean(0, 0, 1));
        met("lean(2, 1, 1)", Check.UNLIKE, x -> x.lean(2, 1, 1));
        promise(31);
        bad("back(10)", x -> x.back(10));
        met("back(5)", Check.UNLIKE, x -> x.back(5));
        promise(33);
        bad("tile(10, 1, 2)", x -> x.tile(10, 1, 2));
        bad("tile(0, 0, 2)", x -> x.tile(0, 0, 2));
        bad("tile(0, 5, 2)", x -> x.tile(0, 5, 2));
        bad("tile(0, 1, 1)", x -> x.tile(0, 1, 1));
        bad("tile(0, 1, 21)", x -> x.tile(0, 1, 21));
        met("tile(2, 1, 2)", Check.UNLIKE, x -> x.tile(2, 1, 2));
        promise(34);
        bad("part(-1)", x -> x.part(-1));
        met("part(6)", Check.UNLIKE, x -> x.part(6));
    }

    private static void turnsOfActs() {
        promise(32);
        bad("shift(10, 0, 1)", x -> x.shift(10, 0, 1));
        bad("shift(5, 4, 1)", x -> x.shift(5, 4, 1));
        bad("shift(5, -1, 1)", x -> x.shift(5, -1, 1));
        bad("shift(5, 0, 401)", x -> x.shift(5, 0, 401));
        bad("shift(5, 0, -401)", x -> x.shift(5, 0, -401));
        bad("shift(6, 1, 1)", x -> x.shift(6, 1, 1));
        met("shift(0, 0, 1)", Check.UNLIKE, x -> x.shift(0, 0, 1));
        promise(35);
        bad("join(10, 0)", x -> x.join(10, 0));
        bad("join(0, 10)", x -> x.join(0, 10));
        bad("join(0, 0)", x -> x.join(0, 0));
        bad("join(8, 0)", x -> x.join(8, 0));
        bad("join(0, 7)", x -> x.join(0, 7));
        bad("join(7, 8)", x -> x.join(7, 8));
        met("join(5, 8)", Check.UNLIKE, x -> x.join(5, 8));
        met("join(0, 9)", Check.UNLIKE, x -> x.join(0, 9));
    }

    private static void turnsThatAreFull() {
        promise(30);
        Twin.refused("lean(0, 1, 1)", Recipes::full, Check.SPENT, x -> x.lean(0, 1, 1));
        promise(32);
        Twin.refused("shift(4, 0, 1)", Recipes::full, Check.SPENT, x -> x.shift(4, 0, 1));
        promise(33);
        full("tile(0, 1, 2)", x -> x.tile(0, 1, 2));
        full("tile(1, 3, 20)", x -> x.tile(1, 3, 20));
        promise(34);
        Twin.refused("part(0)", Recipes::tiled, Check.SPENT, x -> x.part(0));
    }

    private static void orders() {
        promise(36);
        Twin.refused("undo()", Recipes::fresh, Check.STATE, x -> x.undo());
        Twin.refused("undo()", Recipes::acts, Check.STATE, x -> x.undo());
        promise(37);
        bad("order(10, 0, 0)", x -> x.order(10, 0, 0));
        bad("order(5, 0, 7)", x -> x.order(5, 0, 7));
        met("order(0, 0, 0)", Check.UNLIKE, x -> x.order(0, 0, 0));
        none("order(5, 11, 0)", x -> x.order(5, 11, 0));
        promise(39);
        bad("why(3)", x -> x.why(3));
        bad("why(-1)", x -> x.why(-1));
    }

    private static void runs() {
        promise(41);
        bad("ended(6)", x -> x.ended(6));
        promise(42);
        bad("fetched(0, 1)", x -> x.fetched(0, 1));
        bad("fetched(1, 21)", x -> x.fetched(1, 21));
        promise(43);
        bad("best(10, 1, 1)", x -> x.best(10, 1, 1));
        bad("best(0, 17, 1)", x -> x.best(0, 17, 1));
        bad("best(0, 1, 0)", x -> x.best(0, 1, 0));
        met("best(5, 1, 1)", Check.UNLIKE, x -> x.best(5, 1, 1));
        Twin.refused("best(0, 1, 1), with none ALLOWED", Recipes::crossed, Check.NONE, x -> x.best(0, 1, 1));
        promise(45);
        bad("written(0, 10)", x -> x.written(0, 10));
        bad("written(0, -1)", x -> x.written(0, -1));
        none("written(99, 0)", x -> x.written(99, 0));
        none("written(-1, 0)", x -> x.written(-1, 0));
    }

    private static void told() {
        promise(46);
        bad("count(5)", x -> x.count(5));
        bad("count(-1)", x -> x.count(-1));
        promise(48);
        bad("findings(0)", x -> x.findings(0));
        bad("findings(6)", x -> x.findings(6));
    }
}
