/** Promises 7 (count), 11 (about), 12 (made), 13 (callee), 14 (faults), 15 (caller) and 16 (way). */
public final class GraphTest {
    private static final int PLAIN = 0, BARE = 1, SHARED = 2, PRIVATE = 3, START = 4;
    private static final int NEW = 0, CALL = 1, UP = 2, STATIC = 3, THREAD = 4, PUT = 5, OUT = 6, ANY = 7;
    private static final Check check = new Check("GraphTest");

    public static void main(String[] args) {
        counts();
        reachedByStatic();
        madeClasses();
        threads();
        ups();
        begunWithAClass();
        begunByStatic();
        bags();
        anyOfAName();
        faultsOfCalls();
        faultsOfUpAndStatic();
        rings();
        ways();
        longestWay();
        changesAreSeen();
        refusals();
        check.end();
    }

    /** A class with n STATIC members of NAMES 0 .. n - 1, at most ten. */
    private static CallGraphs shared(int n) {
        CallGraphs g = new CallGraphs();
        g.type(0, -1);
        for (int name = 0; name < n; name++) g.member(0, name, SHARED);
        return g;
    }

    private static void call(CallGraphs g, int from, int... names) {
        for (int name : names) g.op(from, STATIC, 0, name);
    }

    private static void dueCallees(String of, CallGraphs g, int member, int op, int... due) {
        for (int i = 0; i < due.length; i++) check.due(of + ": callee " + i, g.callee(member, op, i), due[i]);
        check.due(of + ": no more callees", g.callee(member, op, due.length), CallGraphs.NONE);
        check.due(of + ": callee -1", g.callee(member, op, -1), CallGraphs.NONE);
    }

    private static void dueCallers(String of, CallGraphs g, int member, int... due) {
        for (int i = 0; i < due.length; i++) check.due(of + ": caller " + i, g.caller(member, i), due[i]);
        check.due(of + ": no more callers", g.caller(member, due.length), CallGraphs.NONE);
        check.due(of + ": caller -1", g.caller(member, -1), CallGraphs.NONE);
        check.due(of + ": how many callers", g.about(member, 2), due.length);
    }

    private static void dueWay(String of, CallGraphs g, int member, int... due) {
        for (int i = 0; i < due.length; i++) check.due(of + ": way " + i, g.way(member, i), due[i]);
        check.due(of + ": the way ends", g.way(member, due.length), CallGraphs.NONE);
        check.due(of + ": way -1", g.way(member, -1), CallGraphs.NONE);
    }

    private static void counts() {
        CallGraphs g = shared(3);
        g.type(0, 0);
        call(g, 0, 0, 1);
        g.op(0, NEW, 1, 0);
        g.op(0, CALL, 0, 7);
        g.root(0, true);
        int[] due = {2, 3, 4, 1, 2, 1, 2, 2, 1, 1};
        for (int what = 0; what < due.length; what++) check.due("count(" + what + ")", g.count(what), due[what]);
        check.due("count(-1)", g.count(-1), CallGraphs.OUTSIDE);
        check.due("count(10)", g.count(10), CallGraphs.OUTSIDE);
    }

    private static void reachedByStatic() {
        CallGraphs g = shared(5);
        call(g, 0, 1);
        call(g, 1, 2, 2);
        call(g, 3, 4);
        g.root(0, true);
        for (int m = 0; m < 5; m++) check.due("reached " + m, g.about(m, 0), m < 3 ? 1 : 0);
        check.due("pairs, each OP for itself", g.count(7), 3);
        dueCallees("reached", g, 1, 1, 2);
        dueCallees("not reached", g, 3, 0);
        dueCallers("called by two OPS of one", g, 2, 1);
        dueCallers("called by one that is not reached", g, 4);
        check.due("begun", g.made(0, 1), 1);
        check.due("not made", g.made(0, 0), 0);
    }

    /** Types: 0 an abstract class, 1, 2, 3 classes UNDER it (3 of 2). NAME 0 of 0, 1, 3; the root is 4, of 0. */
    private static CallGraphs family() {
        CallGraphs g = new CallGraphs();
        g.type(1, -1);
        g.type(0, 0);
        g.type(0, 0);
        g.type(0, 2);
        g.member(0, 0, PLAIN);
        g.member(1, 0, PLAIN);
        g.member(3, 0, PLAIN);
        g.member(0, 1, PLAIN);
        g.member(0, 5, SHARED);
        g.root(4, true);
        return g;
    }

    private static void madeClasses() {
        CallGraphs g = family();
        g.op(4, CALL, 0, 0);
        dueCallees("none is made", g, 4, 0);
        g.op(4, NEW, 1, 0);
        dueCallees("1 is made, behind the call", g, 4, 0, 1);
        g.op(4, CALL, 2, 0);
        dueCallees("none UNDER 2", g, 4, 2);
        g.op(1, NEW, 3, 0);
        dueCallees("3 is made by a callee", g, 4, 0, 1, 2);
        dueCallees("UNDER 2", g, 4, 2, 2);
        g.op(2, NEW, 2, 0);
        dueCallees("2 has what 0 has", g, 4, 0, 0, 1, 2);
        for (int t = 0; t < 4; t++) check.due("made " + t, g.made(t, 0), t == 0 ? 0 : 1);
        check.due("made classes", g.count(5), 3);
        check.due("not called", g.about(3, 0), 0);
    }

    private static void threads() {
        CallGraphs g = family();
        g.member(0, 9, PLAIN);
        g.op(4, THREAD, 0, 1);
        g.op(4, NEW, 3, 0);
        dueCallees("NAME 9", g, 4, 0, 5);
        g.member(3, 9, PLAIN);
        dueCallees("as the class has it", g, 4, 0, 6);
        check.due("not NAME 1", g.about(3, 0), 0);
    }

    private static void ups() {
        CallGraphs g = family();
        g.root(2, true);
        g.op(2, UP, 2, 0);
        dueCallees("as the SUPER has it, though none is made", g, 2, 0, 0);
        g.member(2, 0, PLAIN);
        dueCallees("the nearest", g, 2, 0, 5);
        check.due("nothing is made", g.count(5), 0);
        check.due("nothing is begun", g.count(6), 0);
    }

    /**
     * Faces 0 (PLAIN), 1 (a STATIC alone), 2 (PLAIN, over 3), 3 (BARE alone); class 4 with faces 3 and 1;
     * class 5 of 4 with face 0; all with a START.
     */
    private static CallGraphs beginning() {
        CallGraphs g = new CallGraphs();
        for (int i = 0; i < 4; i++) g.type(2, -1);
        g.type(0, -1);
        g.type(0, 4);
        g.face(3, 2);
        g.face(4, 3);
        g.face(4, 1);
        g.face(5, 0);
        for (int t = 0; t < 6; t++) g.member(t, 0, START);
        g.member(0, 0, PLAIN);
        g.member(1, 1, SHARED);
        g.member(2, 2, PLAIN);
        g.member(3, 3, BARE);
        g.member(3, 4, SHARED);
        g.member(4, 5, SHARED);
        g.root(11, true);
        return g;
    }

    private static void begunWithAClass() {
        CallGraphs g = beginning();
        check.due("a root begins nothing", g.count(6), 0);
        g.op(11, NEW, 5, 0);
        int[] begun = {1, 0, 1, 0, 1, 1};
        for (int t = 0; t < 6; t++) {
            check.due("begun " + t, g.made(t, 1), begun[t]);
            check.due("START " + t, g.about(t, 0), begun[t]);
        }
        dueCallees("all these STARTS", g, 11, 0, 0, 2, 4, 5);
        check.due("but one is made", g.count(5), 1);
        g.op(5, NEW, 4, 0);
        dueCallees("NEW of the SUPER within", g, 5, 0, 2, 4);
        dueCallers("START of 4", g, 4, 5, 11);

        CallGraphs row = new CallGraphs();
        for (int t = 0; t < 16; t++) row.type(0, t - 1);
        row.member(15, 0, SHARED);
        row.member(0, 0, START);
        row.root(0, true);
        row.op(0, NEW, 15, 0);
        check.due("sixteen in a row", row.count(6), 16);
        dueCallees("the START at the top of sixteen", row, 0, 0, 1);
    }

    private static void begunByStatic() {
        CallGraphs g = beginning();
        g.op(11, STATIC, 3, 4);
        dueCallees("a face begins nothing with it", g, 11, 0, 3, 10);
        check.due("begun", g.count(6), 1);
        g.op(11, STATIC, 5, 5);
        dueCallees("the type that has the member, not the one that is told", g, 11, 1, 2, 4, 11);
        check.due("5 is not begun", g.made(5, 1), 0);
        g.op(11, STATIC, 0, 0);
        dueCallees("a member that is not STATIC", g, 11, 2);
        check.due("does not begin its type", g.made(0, 1), 0);
        check.due("made none", g.count(5), 0);
    }

    private static void bags() {
        CallGraphs g = shared(5);
        g.root(0, true);
        g.op(0, OUT, 1, 0);
        g.op(0, PUT, 1, 2);
        g.op(2, PUT, 1, 1);
        g.op(3, PUT, 1, 4);
        g.op(2, PUT, 0, 4);
        dueCallees("all that is in the bag, though put later", g, 0, 0, 1, 2);
        dueCallees("PUT calls nothing", g, 0, 1);
        check.due("put by one that is not reached, and into another bag", g.about(4, 0), 0);
        check.due("a handle begins nothing", g.count(6), 0);
    }

    private static void anyOfAName() {
        CallGraphs g = new CallGraphs();
        for (int i = 0; i < 4; i++) g.type(1, -1);
        g.member(0, 0, BARE);
        g.member(1, 0, PRIVATE);
        g.member(2, 0, SHARED);
        g.member(3, 0, PLAIN);
        g.member(3, 0, START);
        g.member(3, 1, PLAIN);
        g.op(5, ANY, 0, 0);
        dueCallees("not reached", g, 5, 0);
        g.root(5, true);
        dueCallees("all but BARE", g, 5, 0, 1, 2, 3);
        check.due("begins nothing", g.count(6), 0);
        check.due("has no faults", g.count(8), 0);
    }

    private static void dueFaults(String of, CallGraphs g, int member, int op, int... due) {
        for (int i = 0; i < 4; i++) check.due(of + ": faults of kind " + (-2 - i), g.faults(member, op, -2 - i), due[i]);
    }

    /** Faces 0 and 1 clash in NAME 0; classes 2 and 3 have both, 4 has 1; 1 has NAME 1 BARE, 2 has NAME 2 STATIC. */
    private static void faultsOfCalls() {
        CallGraphs g = new CallGraphs();
        g.type(2, -1);
        g.type(2, -1);
        for (int t = 2; t < 5; t++) {
            g.type(0, -1);
            g.face(t, 1);
            if (t < 4) g.face(t, 0);
        }
        g.member(0, 0, PLAIN);
        g.member(1, 0, PLAIN);
        g.member(1, 1, BARE);
        g.member(2, 2, SHARED);
        int root = g.member(4, 7, SHARED);
        g.op(root, CALL, 1, 0);
        g.op(root, CALL, 1, 1);
        g.op(root, CALL, 1, 5);
        g.op(root, CALL, 2, 2);
        g.op(root, THREAD, 1, 0);
        dueFaults("not reached", g, root, 0, 0, 0, 0, 0);
        g.root(root, true);
        for (int op = 0; op < 5; op++) dueFaults("none made, OP " + op, g, root, op, 0, 0, 0, 0);
        for (int c = 2; c < 5; c++) g.op(root, NEW, c, 0);
        dueFaults("CLASH for each", g, root, 0, 0, 0, 0, 2);
        dueCallees("but for one", g, root, 0, 1);
        dueFaults("BARE for each", g, root, 1, 0, 0, 3, 0);
        dueFaults("MISSING once", g, root, 2, 1, 0, 0, 0);
        dueFaults("UNLIKE once", g, root, 3, 0, 1, 0, 0);
        dueFaults("THREAD is MISSING once", g, root, 4, 1, 0, 0, 0);
        dueFaults("NEW has none", g, root, 5, 0, 0, 0, 0);
        check.due("all faults", g.count(8), 8);
        g.op(root, CALL, 4, 1);
        dueFaults("of the one UNDER it", g, root, 8, 0, 0, 1, 0);
    }

    private static void faultsOfUpAndStatic() {
        CallGraphs g = new CallGraphs();
        g.type(2, -1);
        g.type(2, -1);
        g.type(1, -1);
        g.face(2, 0);
        g.face(2, 1);
        g.type(0, 2);
        g.member(0, 0, PLAIN);
        g.member(1, 0, PLAIN);
        g.member(2, 1, BARE);
        g.member(2, 2, SHARED);
        int root = g.member(3, 7, PLAIN);
        g.root(root, true);
        g.op(root, UP, 2, 5);
        g.op(root, UP, 2, 2);
        g.op(root, UP, 2, 1);
        g.op(root, UP, 2, 0);
        g.op(root, STATIC, 2, 5);
        g.op(root, STATIC, 3, 0);
        g.op(root, STATIC, 3, 2);
        dueFaults("UP MISSING", g, root, 0, 1, 0, 0, 0);
        dueFaults("UP UNLIKE", g, root, 1, 0, 1, 0, 0);
        dueFaults("UP BARE", g, root, 2, 0, 0, 1, 0);
        dueFaults("UP CLASH", g, root, 3, 0, 0, 0, 1);
        dueFaults("STATIC MISSING", g, root, 4, 1, 0, 0, 0);
        dueFaults("STATIC UNLIKE", g, root, 5, 0, 1, 0, 0);
        dueFaults("STATIC without a fault", g, root, 6, 0, 0, 0, 0);
        check.due("all faults", g.count(8), 6);
        g.root(root, false);
        check.due("not reached", g.count(8), 0);
        dueFaults("not reached", g, root, 0, 0, 0, 0, 0);
    }

    private static void rings() {
        CallGraphs g = shared(9);
        call(g, 0, 3);
        call(g, 3, 1);
        call(g, 1, 2, 4);
        call(g, 2, 3);
        call(g, 4, 4, 5);
        call(g, 6, 7);
        call(g, 7, 6);
        g.root(0, true);
        int[] rings = {0, 3, 3, 3, 1, 0, 0, 0, 0};
        int[] least = {-1, 1, 1, 1, 4, -1, -1, -1, -1};
        for (int m = 0; m < 9; m++) {
            check.due("recursive " + m, g.about(m, 1), rings[m] > 0 ? 1 : 0);
            check.due("ring of " + m, g.about(m, 3), rings[m]);
            check.due("least of the ring of " + m, g.about(m, 4), least[m]);
        }
        check.due("count(9)", g.count(9), 4);
        g.root(7, true);
        check.due("count(9), 6 and 7 reached", g.count(9), 6);
        check.due("ring of 6", g.about(6, 3), 2);
        dueCallers("of one in two rows", g, 3, 0, 2);
        dueCallers("of one that calls itself", g, 4, 1, 4);
    }

    private static void ways() {
        CallGraphs g = shared(10);
        call(g, 0, 5, 4);
        call(g, 4, 6);
        call(g, 5, 6, 8);
        call(g, 6, 7);
        call(g, 2, 3);
        call(g, 3, 7);
        call(g, 1, 5, 0);
        g.root(2, true);
        g.root(1, true);
        dueWay("to a root", g, 1, 1);
        dueWay("to a callee", g, 5, 1, 5);
        dueWay("the shorter, though of the greater root", g, 7, 2, 3, 7);
        dueWay("over the lesser row", g, 6, 1, 5, 6);
        dueWay("not reached", g, 9);
        g.root(0, true);
        dueWay("of two roots the lesser", g, 5, 0, 5);
        dueWay("at the first that differs", g, 6, 0, 4, 6);
        dueWay("a root that is called", g, 0, 0);
        dueWay("to the end", g, 8, 0, 5, 8);
        g.root(2, false);
        dueWay("without the short one", g, 7, 0, 4, 6, 7);
    }

    private static void longestWay() {
        CallGraphs g = new CallGraphs();
        for (int t = 0; t < 5; t++) g.type(0, -1);
        for (int m = 0; m < 48; m++) g.member(m / 10, m % 10, SHARED);
        for (int m = 0; m < 47; m++) g.op(m + 1, STATIC, m / 10, m % 10);
        g.root(47, true);
        for (int i = 0; i < 48; i++) check.due("longest way " + i, g.way(0, i), 47 - i);
        check.due("longest way ends", g.way(0, 48), CallGraphs.NONE);
        check.due("all reached", g.count(4), 48);
        g.op(0, STATIC, 4, 7);
        check.due("one ring", g.about(20, 3), 48);
        check.due("all recursive", g.count(9), 48);
    }

    private static void changesAreSeen() {
        CallGraphs g = family();
        g.op(4, CALL, 0, 1);
        g.op(4, NEW, 1, 0);
        check.due("before", g.callee(4, 0, 0), 3);
        g.member(1, 1, PLAIN);
        check.due("a member came", g.callee(4, 0, 0), 5);
        check.due("the one before is not reached now", g.about(3, 0), 0);
        g.op(5, STATIC, 0, 5);
        check.due("an OP came", g.about(4, 1), 1);
        check.due("a refused one changes nothing", g.op(5, NEW, 0, 0), CallGraphs.OUTSIDE);
        check.due("pairs", g.count(7), 2);
        g.root(4, false);
        check.due("a root went", g.count(4), 0);
        check.due("then none is made", g.count(5), 0);
        check.due("then none is begun", g.count(6), 0);
        check.due("then none is called", g.about(5, 2), 0);
        g.root(4, true);
        check.due("a root came: caller", g.caller(5, 0), 4);
        g.root(4, false);
        check.due("and went: caller", g.caller(5, 0), CallGraphs.NONE);
        g.root(4, true);
        check.due("a root came: way", g.way(5, 1), 5);
        g.root(4, false);
        check.due("and went: way", g.way(5, 1), CallGraphs.NONE);
        g.root(4, true);
        check.due("a root came: callee", g.callee(4, 0, 0), 5);
        g.root(4, false);
        check.due("and went: callee", g.callee(4, 0, 0), CallGraphs.NONE);
        g.root(4, true);
        check.due("a root came: made", g.made(1, 0), 1);
        g.root(4, false);
        check.due("and went: made", g.made(1, 0), 0);
        g.op(4, CALL, 0, 7);
        g.root(4, true);
        check.due("a root came: faults", g.faults(4, 2, CallGraphs.MISSING), 1);
        g.root(4, false);
        check.due("and went: faults", g.faults(4, 2, CallGraphs.MISSING), 0);

        CallGraphs bag = shared(3);
        bag.op(0, PUT, 0, 2);
        bag.op(1, OUT, 0, 0);
        bag.root(0, true);
        bag.root(1, true);
        check.due("put by a root", bag.about(2, 0), 1);
        bag.root(0, false);
        check.due("that is none now", bag.about(2, 0), 0);

        CallGraphs late = new CallGraphs();
        late.type(2, -1);
        late.type(0, -1);
        late.member(0, 0, PLAIN);
        late.member(1, 1, SHARED);
        late.root(1, true);
        late.op(1, NEW, 1, 0);
        late.op(1, CALL, 0, 0);
        check.due("no face yet", late.count(4), 1);
        check.due("begun without it", late.count(6), 1);
        late.face(1, 0);
        check.due("a face came", late.count(4), 2);
        check.due("begun with it", late.count(6), 2);
    }

    private static void refusals() {
        CallGraphs g = shared(2);
        call(g, 0, 1);
        check.due("about: member 2", g.about(2, 0), CallGraphs.UNKNOWN);
        check.due("about: member -1, what 5", g.about(-1, 5), CallGraphs.UNKNOWN);
        check.due("about: what 5", g.about(0, 5), CallGraphs.OUTSIDE);
        check.due("about: what -1", g.about(0, -1), CallGraphs.OUTSIDE);
        check.due("made: type 1", g.made(1, 0), CallGraphs.UNKNOWN);
        check.due("made: type -1, what 2", g.made(-1, 2), CallGraphs.UNKNOWN);
        check.due("made: what 2", g.made(0, 2), CallGraphs.OUTSIDE);
        check.due("made: what -1", g.made(0, -1), CallGraphs.OUTSIDE);
        check.due("callee: member 2", g.callee(2, 0, 0), CallGraphs.UNKNOWN);
        check.due("callee: member -1", g.callee(-1, 0, 0), CallGraphs.UNKNOWN);
        check.due("callee: op 1", g.callee(0, 1, 0), CallGraphs.UNKNOWN);
        check.due("callee: op -1", g.callee(0, -1, 0), CallGraphs.UNKNOWN);
        check.due("callee: op 0 of one without", g.callee(1, 0, 0), CallGraphs.UNKNOWN);
        check.due("callee: greatest i", g.callee(0, 0, Integer.MAX_VALUE), CallGraphs.NONE);
        check.due("faults: member 2", g.faults(2, 0, -2), CallGraphs.UNKNOWN);
        check.due("faults: op 1, kind 0", g.faults(0, 1, 0), CallGraphs.UNKNOWN);
        check.due("faults: op -1", g.faults(0, -1, -2), CallGraphs.UNKNOWN);
        check.due("faults: kind -1", g.faults(0, 0, -1), CallGraphs.OUTSIDE);
        check.due("faults: kind -6", g.faults(0, 0, -6), CallGraphs.OUTSIDE);
        check.due("caller: member 2", g.caller(2, 0), CallGraphs.UNKNOWN);
        check.due("caller: member -1", g.caller(-1, 0), CallGraphs.UNKNOWN);
        check.due("caller: least i", g.caller(0, Integer.MIN_VALUE), CallGraphs.NONE);
        check.due("way: member 2", g.way(2, 0), CallGraphs.UNKNOWN);
        check.due("way: member -1", g.way(-1, 0), CallGraphs.UNKNOWN);
        check.due("way: greatest i", g.way(0, Integer.MAX_VALUE), CallGraphs.NONE);
    }
}
