/** Promise 18 (holds), clause by clause: it is always so. */
public final class HoldsTest implements Words {
    private static final int SEEDS = 60;
    private static final Check check = new Check("HoldsTest");

    public static void main(String[] args) {
        emptyPrograms();
        membersThatRan();
        whatAnOpRan();
        whatAnOpWasToRun();
        startsThatAnOpRan();
        typesBegun();
        objectsOfMadeClasses();
        behindChanges();
        fullPrograms();
        everySeed();
        check.end();
    }

    private static CallGraphs types(int... kinds) {
        CallGraphs g = new CallGraphs();
        for (int kind : kinds) g.type(kind, NONE);
        return g;
    }

    private static CallGraphs shared(int n) {
        CallGraphs g = types(CLASS);
        for (int name = 0; name < n; name++) g.member(0, name, SHARED);
        return g;
    }

    private static void dueHolds(String of, CallGraphs g) {
        for (long seed = 0; seed < SEEDS; seed++) check.due(of + ": holds(" + seed + ")", g.holds(seed), true);
    }

    private static void emptyPrograms() {
        check.sentence(18, "Whether (it is always so: no types, no members, no ROOTS)");
        dueHolds("no types", new CallGraphs());
        dueHolds("no members", types(CLASS, FACE));
        dueHolds("no OPS", shared(3));
        CallGraphs g = shared(2);
        g.op(0, STATIC, 0, 1);
        dueHolds("no ROOTS", g);
        g.root(0, true);
        dueHolds("a ROOT", g);
    }

    private static void membersThatRan() {
        check.sentence(18, "all members that ran in a RUN are REACHED");
        CallGraphs g = shared(8);
        for (int m = 0; m < 7; m++) g.op(m, STATIC, 0, m + 1);
        g.root(2, true);
        g.root(5, true);
        dueHolds("two ROOTS in a row", g);
        check.due("REACHED", g.count(4), 6);
        int most = 0;
        for (long seed = 0; seed < SEEDS; seed++) most = Math.max(most, g.run(seed, 1));
        check.due("at the most ran", most, 6);
    }

    /** Of each kind of OP one in the ROOT, each with another member that it comes to. */
    private static CallGraphs everyOp() {
        CallGraphs g = types(FACE, CLASS);
        g.type(CLASS, 1);
        g.face(2, 0);
        g.member(0, 0, PLAIN);
        g.member(1, 1, PLAIN);
        g.member(1, 2, SHARED);
        g.member(2, 9, PLAIN);
        g.member(2, 3, PRIVATE);
        g.member(1, 4, PRIVATE);
        g.member(2, 5, PLAIN);
        int[][] ops = {{NEW, 2, 0}, {CALL, 0, 0}, {UP, 1, 1}, {STATIC, 2, 2}, {THREAD, 2, 0}, {PUT, 1, 4}, {OUT, 1, 0}, {ANY, 0, 4}};
        for (int[] o : ops) g.op(6, o[0], o[1], o[2]);
        g.root(6, true);
        return g;
    }

    private static void whatAnOpRan() {
        check.sentence(18, "all that an OP ran, CALLEES of it");
        CallGraphs g = everyOp();
        dueHolds("every kind", g);
        int[] due = {NONE, 0, 1, 2, 3, NONE, 4, 5};
        for (int op = 0; op < 8; op++) check.due("callee(6, " + op + ", 0)", g.callee(6, op, 0), due[op]);
        int most = 0;
        for (long seed = 0; seed < SEEDS; seed++) most = Math.max(most, g.run(seed, 1));
        check.due("some RUN came to all", most, 7);
    }

    private static void whatAnOpWasToRun() {
        check.sentence(18, "or was to run but for the 12 and the 300, CALLEES of it");
        CallGraphs deep = new CallGraphs();
        for (int t = 0; t < 3; t++) deep.type(CLASS, NONE);
        for (int m = 0; m < 14; m++) deep.member(m / 10, m % 10, SHARED);
        for (int m = 0; m < 13; m++) {
            for (int i = 0; i < 3; i++) deep.op(m, STATIC, (m + 1) / 10, (m + 1) % 10);
        }
        deep.root(0, true);
        dueHolds("a row of 14", deep);
        int left = 0;
        for (long seed = 0; seed < SEEDS; seed++) left += deep.run(seed, 4);
        check.due("some were left", left > 0, true);
        check.due("what never runs is REACHED", deep.about(12, 0), 1);

        CallGraphs wide = everyOp();
        for (int m = 0; m < 6; m++) {
            for (int i = 0; i < 20; i++) wide.op(m, ANY, 0, i % 6);
        }
        dueHolds("wide", wide);
        int full = 0;
        for (long seed = 0; seed < SEEDS; seed++) full += wide.run(seed, 0) == 300 ? 1 : 0;
        check.due("some come to 300", full > 0, true);
    }

    private static void startsThatAnOpRan() {
        check.sentence(18, "all that an OP ran (STARTS with NEW and STATIC)");
        CallGraphs g = everyOp();
        for (int t = 0; t < 3; t++) g.member(t, 0, START);
        g.op(7, STATIC, 1, 2);
        g.op(8, NEW, 2, 0);
        g.op(9, NEW, 1, 0);
        dueHolds("STARTS", g);
    }

    private static void typesBegun() {
        check.sentence(18, "types begun BEGUN");
        CallGraphs g = types(FACE, FACE, FACE, CLASS);
        g.type(ABSTRACT, 3);
        g.type(CLASS, 4);
        g.face(1, 0);
        g.face(3, 1);
        g.face(5, 2);
        g.member(0, 0, PLAIN);
        g.member(2, 1, SHARED);
        g.member(3, 2, SHARED);
        g.op(2, STATIC, 2, 1);
        g.op(2, NEW, 5, 0);
        g.root(2, true);
        dueHolds("by NEW and STATIC", g);
        check.due("BEGUN", g.count(6), 5);
        int most = 0;
        for (long seed = 0; seed < SEEDS; seed++) most = Math.max(most, g.run(seed, 3));
        check.due("at the most begun", most, 5);
    }

    private static void objectsOfMadeClasses() {
        check.sentence(18, "objects of MADE classes");
        CallGraphs g = new CallGraphs();
        for (int t = 0; t < 16; t++) g.type(CLASS, t - 1);
        g.member(0, 0, SHARED);
        for (int t = 0; t < 16; t++) g.op(0, NEW, t, 0);
        g.root(0, true);
        dueHolds("of 16 classes", g);
        check.due("MADE", g.count(5), 16);
    }

    private static void behindChanges() {
        check.sentence(18, "Whether (it is always so: behind each change)");
        CallGraphs g = new CallGraphs();
        int[][] tell = {{0, FACE, NONE, 0}, {0, CLASS, NONE, 0}, {2, 0, 0, PLAIN}, {2, 1, 1, SHARED}, {3, 1, NEW, 1}, {4, 1, 1, 0},
            {3, 1, CALL, 0}, {1, 1, 0, 0}, {2, 1, 0, PLAIN}, {0, CLASS, 1, 0}, {3, 2, NEW, 2}, {4, 1, 0, 0}, {4, 2, 1, 0}, {4, 1, 1, 0}};
        for (int[] t : tell) {
            if (t[0] == 0) g.type(t[1], t[2]);
            if (t[0] == 1) g.face(t[1], t[2]);
            if (t[0] == 2) g.member(t[1], t[2], t[3]);
            if (t[0] == 3) g.op(t[1], t[2], t[3], 0);
            if (t[0] == 4) g.root(t[1], t[2] == 1);
            for (long seed = 0; seed < 20; seed++) check.due("holds(" + seed + ")", g.holds(seed), true);
        }
    }

    private static void fullPrograms() {
        check.sentence(18, "Whether (it is always so: 16 types, 48 members, 160 OPS, 48 ROOTS)");
        CallGraphs g = new CallGraphs();
        for (int t = 0; t < 16; t++) g.type(CLASS, t - 1);
        for (int m = 0; m < 48; m++) g.member(m / 3, m % 3 + 7, m % 3 == 2 ? PLAIN : SHARED);
        int[] kinds = {NEW, CALL, STATIC, THREAD, PUT, OUT, ANY};
        for (int i = 0; i < 160; i++) {
            int kind = kinds[i % 7];
            g.op(i % 48, kind, kind < PUT ? i % 16 : i % 4, kind == PUT ? i % 48 : 7 + i % 3);
        }
        for (int m = 0; m < 48; m++) g.root(m, true);
        check.due("OPS", g.count(2), 160);
        dueHolds("full", g);
    }

    private static void everySeed() {
        check.sentence(18, "holds(long seed)");
        CallGraphs g = everyOp();
        long[] seeds = {Long.MIN_VALUE, Long.MAX_VALUE, -1L, 1L << 33, Integer.MIN_VALUE, Integer.MAX_VALUE};
        for (long seed : seeds) {
            int steps = g.run(seed, 0);
            check.due("holds(" + seed + ")", g.holds(seed), true);
            check.due("run(" + seed + ", 0) behind it", g.run(seed, 0), steps);
        }
    }
}
