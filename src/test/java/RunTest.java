/** Promise 17 (run), sentence by sentence, with what is said of a RUN. What is due is told from the draws themselves. */
public final class RunTest implements Words {
    private static final int SEEDS = 60;
    private static final long[] FAR_SEEDS = {Long.MIN_VALUE, Long.MIN_VALUE + 1, Long.MAX_VALUE, -1L, 1L << 31, 1L << 32, 1L << 33,
        -(1L << 33), 0x123456789abcdefL};
    private static final Check check = new Check("RunTest");

    /** Tells a program to a new object; a run is asked of each object for a few seeds only, as it takes 512 calls at most. */
    private interface Program {
        CallGraphs make();
    }

    public static void main(String[] args) {
        drawsIn64Bits();
        drawsModulo();
        rootsByNumbers();
        emptyAtFirst();
        poolGoesOn();
        bagsGoOn();
        begunGoOn();
        stepsOneMore();
        opsInOrder();
        leftOut();
        begunThenPooled();
        fewerThanTwenty();
        noneInThePool();
        oneByItsPlace();
        threadIsCallNine();
        aFaultIsNothing();
        upIsTold();
        staticIsBegunBefore();
        staticOfAFault();
        putBehindTheOthers();
        outOfNothing();
        anyByNumbers();
        anyOfNothing();
        answers();
        latestMember();
        outside();
        runChangesNothing();
        check.end();
    }

    private static CallGraphs types(int... kinds) {
        CallGraphs g = new CallGraphs();
        for (int kind : kinds) g.type(kind, NONE);
        return g;
    }

    private static CallGraphs shared(int n) {
        CallGraphs g = types(CLASS);
        for (int name = 0; name < n; name++) g.member(0, name, SHARED);
        return g;
    }

    private static void dueRun(String of, Program program, long seed, int... due) {
        CallGraphs g = program.make();
        for (int what = 0; what < due.length; what++) {
            check.due(of + ": run(" + seed + ", " + what + ")", g.run(seed, what), due[what]);
        }
    }

    private static CallGraphs makesTwenty() {
        CallGraphs g = shared(1);
        for (int i = 0; i < 20; i++) g.op(0, NEW, 0, 0);
        g.root(0, true);
        return g;
    }

    private static void drawsIn64Bits() {
        check.sentence(0, "x is the SEED at first; to DRAW of n: x becomes x * 6364136223846793005 + 1442695040888963407 (in 64 bits)");
        for (long seed : FAR_SEEDS) check.due("run(" + seed + ", 2)", makesTwenty().run(seed, 2), new Draws(seed).kept(20));
        for (long seed = -SEEDS; seed < SEEDS; seed++) {
            check.due("run(" + seed + ", 2)", makesTwenty().run(seed, 2), new Draws(seed).kept(20));
        }
    }

    /** n types have NAME 0, and the ROOT calls any of them. */
    private static CallGraphs anyOf(int n) {
        CallGraphs g = new CallGraphs();
        for (int t = 0; t < n; t++) g.type(CLASS, NONE);
        for (int t = 0; t < n; t++) g.member(t, 0, SHARED);
        int root = g.member(0, 1, SHARED);
        g.op(root, ANY, 0, 0);
        g.root(root, true);
        return g;
    }

    private static void drawsModulo() {
        check.sentence(0, "and the answer is x >>> 33, modulo n");
        for (int n = 1; n <= 16; n++) {
            for (long seed : FAR_SEEDS) dueAnyOf(n, seed);
            for (long seed = 0; seed < 20; seed++) dueAnyOf(n, seed);
        }
    }

    private static void dueAnyOf(int n, long seed) {
        Draws draws = new Draws(seed);
        check.due("of " + n + ": run(" + seed + ", 5)", anyOf(n).run(seed, 5), draws.keeps() ? draws.of(n) : n);
    }

    private static void rootsByNumbers() {
        check.sentence(0, "The ROOTS run, one after the other, by their numbers");
        Program three = () -> {
            CallGraphs g = shared(4);
            int[] told = {3, 0, 2};
            for (int m : told) g.root(m, true);
            return g;
        };
        dueRun("0, 2, 3", three, 1, 3, 3, 0, 0, 0, 3);
        for (long seed = 0; seed < SEEDS; seed++) {
            Draws draws = new Draws(seed);
            boolean put = draws.keeps();
            boolean out = draws.keeps();
            if (out && put) draws.of(1);
            int steps = put && out ? 3 : 2;
            dueRun("0 puts, 1 takes", () -> putsAndTakes(0, 1), seed, steps, steps, 0, 0, 0, put && out ? 2 : 1);
            dueRun("0 takes, 1 puts", () -> putsAndTakes(1, 0), seed, 2, 2, 0, 0, 0, 1);
        }
    }

    private static CallGraphs putsAndTakes(int puts, int takes) {
        CallGraphs g = shared(3);
        g.root(1, true);
        g.root(0, true);
        g.op(puts, PUT, 0, 2);
        g.op(takes, OUT, 0, 0);
        return g;
    }

    private static void emptyAtFirst() {
        check.sentence(0, "with POOL, BAGS and begun types that are empty at first");
        Program some = () -> {
            CallGraphs g = shared(3);
            g.member(0, 0, START);
            g.member(0, 5, PLAIN);
            g.op(0, CALL, 0, 5);
            g.op(0, OUT, 2, 0);
            g.op(0, PUT, 2, 1);
            g.op(0, NEW, 0, 0);
            g.root(0, true);
            return g;
        };
        for (long seed = 0; seed < SEEDS; seed++) {
            CallGraphs g = some.make();
            for (long before = 0; before < 8; before++) g.run(before, 0);
            Draws draws = new Draws(seed);
            draws.kept(3);
            boolean made = draws.keeps();
            int steps = made ? 2 : 1;
            int[] due = {steps, steps, made ? 1 : 0, made ? 1 : 0, 0, made ? 3 : 0};
            for (int what = 0; what < 6; what++) check.due("behind others: run(" + seed + ", " + what + ")", g.run(seed, what), due[what]);
        }
    }

    private static void poolGoesOn() {
        check.sentence(0, "and go on (the POOL)");
        Program two = () -> {
            CallGraphs g = shared(2);
            g.member(0, 5, PLAIN);
            g.op(0, NEW, 0, 0);
            g.op(1, CALL, 0, 5);
            g.root(0, true);
            g.root(1, true);
            return g;
        };
        for (long seed = 0; seed < SEEDS; seed++) {
            Draws draws = new Draws(seed);
            boolean made = draws.keeps();
            boolean called = draws.keeps() && made;
            int steps = called ? 3 : 2;
            dueRun("made by one ROOT", two, seed, steps, steps, made ? 1 : 0, made ? 1 : 0, 0, called ? 2 : 1);
        }
    }

    private static void bagsGoOn() {
        check.sentence(0, "and go on (the BAGS)");
        Program two = () -> {
            CallGraphs g = shared(8);
            for (int bag = 0; bag < 4; bag++) g.op(0, PUT, bag, 4 + bag);
            for (int bag = 0; bag < 4; bag++) g.op(1, OUT, bag, 0);
            g.root(0, true);
            g.root(1, true);
            return g;
        };
        for (long seed = 0; seed < SEEDS; seed++) {
            Draws draws = new Draws(seed);
            boolean[] put = new boolean[4];
            for (int bag = 0; bag < 4; bag++) put[bag] = draws.keeps();
            int steps = 2;
            int latest = 1;
            for (int bag = 0; bag < 4; bag++) {
                if (!draws.keeps() || !put[bag]) continue;
                draws.of(1);
                steps++;
                latest = 4 + bag;
            }
            dueRun("put by one ROOT", two, seed, steps, steps, 0, 0, 0, latest);
        }
    }

    private static void begunGoOn() {
        check.sentence(0, "and go on (begun types)");
        Program two = () -> {
            CallGraphs g = shared(2);
            g.member(0, 0, START);
            g.op(0, NEW, 0, 0);
            g.op(1, NEW, 0, 0);
            g.root(0, true);
            g.root(1, true);
            return g;
        };
        for (long seed = 0; seed < SEEDS; seed++) {
            Draws draws = new Draws(seed);
            boolean first = draws.keeps();
            boolean second = draws.keeps();
            int made = (first ? 1 : 0) + (second ? 1 : 0);
            int steps = made > 0 ? 3 : 2;
            dueRun("begun by one ROOT", two, seed, steps, steps, made, made > 0 ? 1 : 0, 0, second && !first ? 2 : 1);
        }
    }

    private static void stepsOneMore() {
        check.sentence(0, "TO RUN a member: STEPS is 1 more");
        Program all = () -> {
            CallGraphs g = types(CLASS, CLASS, CLASS, CLASS, CLASS);
            for (int m = 0; m < 48; m++) {
                g.member(m / 10, m % 10, SHARED);
                g.root(m, true);
            }
            return g;
        };
        dueRun("48 ROOTS", all, 5, 48, 48, 0, 0, 0, 47);
        dueRun("no ROOT", () -> shared(3), 5, 0, 0, 0, 0, 0, NONE);
        Program twice = () -> {
            CallGraphs g = shared(2);
            g.op(0, STATIC, 0, 1);
            g.op(0, STATIC, 0, 1);
            g.root(0, true);
            return g;
        };
        for (long seed = 0; seed < SEEDS; seed++) {
            int calls = new Draws(seed).kept(2);
            dueRun("one member twice", twice, seed, 1 + calls, calls > 0 ? 2 : 1);
        }
    }

    private static void opsInOrder() {
        check.sentence(0, "its OPS, in order");
        Program some = () -> {
            CallGraphs g = shared(10);
            for (int m = 9; m > 0; m--) g.op(0, STATIC, 0, m);
            g.root(0, true);
            return g;
        };
        for (long seed = 0; seed < SEEDS; seed++) {
            Draws draws = new Draws(seed);
            int steps = 1;
            int latest = 0;
            for (int m = 9; m > 0; m--) {
                if (!draws.keeps()) continue;
                latest = m;
                steps++;
            }
            dueRun("9 .. 1", some, seed, steps, steps, 0, steps > 1 ? 1 : 0, 0, latest);
        }
    }

    private static void leftOut() {
        check.sentence(0, "of each first a DRAW of 4: with 0 it is left out");
        int[][] ops = {{NEW, 0, 0}, {STATIC, 0, 1}, {UP, 1, 0}, {ANY, 0, 1}};
        for (int[] op : ops) {
            Program one = () -> {
                CallGraphs g = types(CLASS, FACE);
                g.type(CLASS, 0);
                g.face(2, 1);
                g.member(1, 0, PLAIN);
                g.member(0, 1, SHARED);
                int root = g.member(2, 2, PLAIN);
                g.op(root, op[0], op[1], op[2]);
                g.root(root, true);
                return g;
            };
            for (long seed = 0; seed < SEEDS; seed++) {
                boolean kept = new Draws(seed).keeps();
                CallGraphs g = one.make();
                check.due("kind " + op[0] + ": run(" + seed + ", 0)", g.run(seed, 0), kept && op[0] != NEW ? 2 : 1);
                check.due("kind " + op[0] + ": run(" + seed + ", 2)", g.run(seed, 2), kept && op[0] == NEW ? 1 : 0);
            }
        }
        Program callOrPut = () -> {
            CallGraphs g = shared(2);
            g.member(0, 5, PLAIN);
            g.op(0, NEW, 0, 0);
            g.op(0, CALL, 0, 5);
            g.op(0, PUT, 0, 1);
            g.op(0, OUT, 0, 0);
            g.root(0, true);
            return g;
        };
        for (long seed = 0; seed < SEEDS; seed++) {
            Draws draws = new Draws(seed);
            boolean made = draws.keeps();
            boolean called = draws.keeps() && made;
            if (called) draws.of(1);
            boolean put = draws.keeps();
            boolean out = draws.keeps() && put;
            dueRun("CALL, PUT, OUT", callOrPut, seed, 1 + (called ? 1 : 0) + (out ? 1 : 0));
        }
    }

    private static void begunThenPooled() {
        check.sentence(0, "NEW a: a is begun (below), then an object of a comes into the POOL");
        Program nested = () -> {
            CallGraphs g = types(FACE, CLASS, CLASS);
            g.face(1, 0);
            g.face(2, 0);
            g.member(0, 0, BARE);
            g.member(1, 0, PLAIN);
            g.member(2, 0, PLAIN);
            g.member(1, 0, START);
            g.op(3, NEW, 2, 0);
            g.member(1, 1, SHARED);
            g.op(4, NEW, 1, 0);
            g.op(4, CALL, 0, 0);
            g.root(4, true);
            return g;
        };
        for (long seed = 0; seed < SEEDS * 2; seed++) {
            Draws draws = new Draws(seed);
            boolean made = draws.keeps();
            boolean within = made && draws.keeps();
            int objects = (made ? 1 : 0) + (within ? 1 : 0);
            boolean called = draws.keeps() && made;
            int latest = called ? within && draws.of(2) == 0 ? 2 : 1 : made ? 3 : 4;
            int steps = 1 + (made ? 1 : 0) + (called ? 1 : 0);
            dueRun("that of the START stands before", nested, seed, steps, steps, objects, objects, 0, latest);
        }
    }

    private static void fewerThanTwenty() {
        check.sentence(0, "if fewer than 20 are there");
        Program full = () -> {
            CallGraphs g = shared(3);
            g.type(CLASS, NONE);
            g.member(1, 0, START);
            for (int i = 0; i < 24; i++) g.op(0, NEW, 0, 0);
            g.op(1, NEW, 1, 0);
            g.root(0, true);
            g.root(1, true);
            return g;
        };
        int[] seen = new int[26];
        for (long seed = 0; seed < SEEDS * 4; seed++) {
            Draws draws = new Draws(seed);
            int first = draws.kept(24);
            int second = draws.kept(1);
            seen[first + second]++;
            dueRun("24 and 1", full, seed, 2 + second, 2 + second, Math.min(20, first + second), 1 + second, 0, second == 1 ? 3 : 1);
        }
        check.due("some seeds make 19, 20 and 21", seen[19] > 0 && seen[20] > 0 && seen[21] > 0, true);
    }

    private static void noneInThePool() {
        check.sentence(0, "none: nothing (not even a DRAW)");
        int[] kinds = {CALL, THREAD};
        for (int kind : kinds) {
            Program empty = () -> {
                CallGraphs g = anyOf(3);
                g.type(CLASS, NONE);
                g.member(3, 9, PLAIN);
                int root = g.member(2, 1, SHARED);
                g.op(root, NEW, 0, 0);
                g.op(root, kind, 3, 9);
                g.op(root, ANY, 0, 0);
                g.root(3, false);
                g.root(root, true);
                return g;
            };
            for (long seed = 0; seed < SEEDS; seed++) {
                Draws draws = new Draws(seed);
                boolean made = draws.keeps();
                draws.keeps();
                boolean any = draws.keeps();
                int steps = any ? 2 : 1;
                dueRun("none UNDER it", empty, seed, steps, steps, made ? 1 : 0, made ? 1 : 0, 0, any ? draws.of(3) : 5);
            }
        }
    }

    /** Classes 1, 2 UNDER face 0, and 3 not; objects in the order 2, 3, 1, 2. */
    private static void oneByItsPlace() {
        check.sentence(0, "among the objects of the POOL that are UNDER a, by their places; one by a DRAW of how many");
        int[] made = {2, 3, 1, 2};
        Program some = () -> {
            CallGraphs g = types(FACE, CLASS, CLASS, CLASS);
            g.face(1, 0);
            g.face(2, 0);
            g.member(0, 0, BARE);
            for (int t = 1; t < 4; t++) g.member(t, 0, PLAIN);
            g.member(3, 1, SHARED);
            for (int c : made) g.op(4, NEW, c, 0);
            g.op(4, CALL, 0, 0);
            g.op(4, CALL, 1, 0);
            g.root(4, true);
            return g;
        };
        for (long seed = 0; seed < SEEDS * 2; seed++) {
            Draws draws = new Draws(seed);
            int[] fitting = new int[4];
            int n = 0;
            int pool = 0;
            int ones = 0;
            int types = 0;
            for (int c : made) {
                if (!draws.keeps()) continue;
                pool++;
                types |= 1 << c;
                if (c == 1) ones++;
                if (c != 3) fitting[n++] = c;
            }
            int steps = 1;
            int latest = 4;
            if (draws.keeps() && n > 0) {
                latest = fitting[draws.of(n)];
                steps++;
            }
            if (draws.keeps() && ones > 0) {
                latest = 1;
                steps++;
            }
            CallGraphs g = some.make();
            check.due("places: run(" + seed + ", 0)", g.run(seed, 0), steps);
            check.due("places: run(" + seed + ", 2)", g.run(seed, 2), pool);
            check.due("places: run(" + seed + ", 3)", g.run(seed, 3), Integer.bitCount(types));
            check.due("places: run(" + seed + ", 5)", g.run(seed, 5), latest);
        }
    }

    private static void threadIsCallNine() {
        check.sentence(0, "CALL, THREAD: the member is run that is CHOSEN");
        Program one = () -> {
            CallGraphs g = shared(1);
            g.type(CLASS, 0);
            g.member(0, 9, PLAIN);
            g.member(1, 9, PLAIN);
            g.member(0, 1, PLAIN);
            g.op(0, NEW, 1, 0);
            g.op(0, THREAD, 0, 1);
            g.op(0, THREAD, 0, 1);
            g.root(0, true);
            return g;
        };
        for (long seed = 0; seed < SEEDS; seed++) {
            Draws draws = new Draws(seed);
            boolean made = draws.keeps();
            int calls = 0;
            for (int i = 0; i < 2; i++) {
                if (!draws.keeps() || !made) continue;
                draws.of(1);
                calls++;
            }
            dueRun("NAME 9", one, seed, 1 + calls, calls > 0 ? 2 : 1, made ? 1 : 0, made ? 2 : 0, 0, calls > 0 ? 2 : 0);
        }
    }

    /** Behind a FAULT of each kind stands an ANY, whose draw tells whether the FAULT has drawn. */
    private static void aFaultIsNothing() {
        check.sentence(0, "(a FAULT: nothing)");
        String[] faults = {"CLASH", "BARE", "UNLIKE", "MISSING"};
        for (int name = 0; name < 4; name++) {
            int called = name;
            Program one = () -> {
                CallGraphs g = types(FACE, FACE, ABSTRACT);
                g.type(CLASS, 2);
                g.face(3, 0);
                g.face(3, 1);
                g.member(0, 0, PLAIN);
                g.member(1, 0, PLAIN);
                g.member(2, 1, BARE);
                g.member(2, 2, SHARED);
                for (int t = 0; t < 4; t++) g.member(t, 8, SHARED);
                g.member(3, 7, PLAIN);
                g.op(8, NEW, 3, 0);
                g.op(8, CALL, 3, called);
                g.op(8, ANY, 0, 8);
                g.root(8, true);
                return g;
            };
            for (long seed = 0; seed < SEEDS; seed++) {
                Draws draws = new Draws(seed);
                boolean made = draws.keeps();
                if (draws.keeps() && made) draws.of(1);
                boolean any = draws.keeps();
                int steps = any ? 2 : 1;
                dueRun(faults[name], one, seed, steps, steps, made ? 1 : 0, made ? 4 : 0, 0, any ? 4 + draws.of(4) : 8);
            }
        }
    }

    private static void upIsTold() {
        check.sentence(0, "UP: that which is told");
        Program some = () -> {
            CallGraphs g = types(FACE, CLASS);
            g.type(CLASS, 1);
            g.face(2, 0);
            g.member(1, 0, PLAIN);
            g.member(2, 0, PLAIN);
            g.member(0, 1, PLAIN);
            g.member(1, 0, START);
            g.member(1, 2, SHARED);
            g.op(1, UP, 1, 0);
            g.op(1, UP, 0, 1);
            g.op(1, UP, 1, 2);
            g.op(1, UP, 1, 9);
            g.op(1, ANY, 0, 0);
            g.root(1, true);
            return g;
        };
        for (long seed = 0; seed < SEEDS; seed++) {
            Draws draws = new Draws(seed);
            boolean first = draws.keeps();
            boolean second = draws.keeps();
            draws.kept(2);
            boolean any = draws.keeps();
            if (any && draws.of(2) == 1) continue;
            int steps = 1 + (first ? 1 : 0) + (second ? 1 : 0) + (any ? 1 : 0);
            int ran = 1 + (first || any ? 1 : 0) + (second ? 1 : 0);
            dueRun("the SUPER's, a face's, and two FAULTS", some, seed, steps, ran, 0, 0, 0, any ? 0 : second ? 2 : first ? 0 : 1);
        }
    }

    private static void staticIsBegunBefore() {
        check.sentence(0, "STATIC: that which is told (its type is begun before)");
        Program some = () -> {
            CallGraphs g = types(CLASS);
            g.type(CLASS, 0);
            g.member(0, 0, SHARED);
            g.member(0, 0, START);
            g.member(1, 0, START);
            g.member(1, 5, SHARED);
            g.op(3, STATIC, 1, 0);
            g.op(3, STATIC, 1, 0);
            g.root(3, true);
            return g;
        };
        for (long seed = 0; seed < SEEDS; seed++) {
            int calls = new Draws(seed).kept(2);
            int starts = calls > 0 ? 1 : 0;
            dueRun("of the SUPER", some, seed, 1 + starts + calls, 1 + 2 * starts, 0, starts, 0, calls > 0 ? 0 : 3);
        }
    }

    private static void staticOfAFault() {
        check.sentence(0, "STATIC: that which is told (a FAULT begins nothing)");
        Program some = () -> {
            CallGraphs g = shared(1);
            g.member(0, 1, PLAIN);
            g.member(0, 2, PRIVATE);
            g.member(0, 0, START);
            g.op(0, STATIC, 0, 1);
            g.op(0, STATIC, 0, 2);
            g.op(0, STATIC, 0, 9);
            g.root(0, true);
            return g;
        };
        for (long seed = 0; seed < 20; seed++) dueRun("UNLIKE and MISSING", some, seed, 1, 1, 0, 0, 0, 0);
    }

    private static void putBehindTheOthers() {
        check.sentence(0, "PUT: the member comes into the BAG, if it is not there (behind the others)");
        int[] put = {3, 1, 3, 2, 1};
        Program some = () -> {
            CallGraphs g = shared(4);
            for (int m : put) g.op(0, PUT, 3, m);
            g.op(0, PUT, 2, 0);
            g.op(0, OUT, 3, 0);
            g.root(0, true);
            return g;
        };
        for (long seed = 0; seed < SEEDS * 2; seed++) {
            Draws draws = new Draws(seed);
            int[] bag = new int[3];
            int n = 0;
            for (int m : put) {
                if (!draws.keeps()) continue;
                boolean there = false;
                for (int i = 0; i < n; i++) there |= bag[i] == m;
                if (!there) bag[n++] = m;
            }
            draws.keeps();
            int latest = draws.keeps() && n > 0 ? bag[draws.of(n)] : 0;
            int steps = latest == 0 ? 1 : 2;
            dueRun("3 1 3 2 1", some, seed, steps, steps, 0, 0, 0, latest);
        }
    }

    private static void outOfNothing() {
        check.sentence(0, "OUT: one by a DRAW of how many there are, if there are any");
        Program some = () -> {
            CallGraphs g = anyOf(3);
            g.op(3, PUT, 1, 0);
            int root = g.member(1, 1, SHARED);
            g.op(root, OUT, 0, 0);
            g.op(root, OUT, 3, 0);
            g.op(root, ANY, 0, 0);
            g.root(3, false);
            g.root(root, true);
            return g;
        };
        for (long seed = 0; seed < SEEDS; seed++) {
            Draws draws = new Draws(seed);
            draws.kept(2);
            int latest = draws.keeps() ? draws.of(3) : 4;
            int steps = latest == 4 ? 1 : 2;
            dueRun("BAGS 0 and 3 are empty", some, seed, steps, steps, 0, 0, 0, latest);
        }
    }

    private static void anyByNumbers() {
        check.sentence(0, "ANY: one by a DRAW of how many there are (by numbers)");
        Program some = () -> {
            CallGraphs g = types(ABSTRACT, FACE, ABSTRACT, CLASS);
            g.member(3, 0, PLAIN);
            g.member(2, 0, BARE);
            g.member(1, 0, PRIVATE);
            g.member(0, 0, SHARED);
            g.member(0, 0, START);
            g.member(0, 1, SHARED);
            g.op(5, ANY, 0, 0);
            g.root(5, true);
            return g;
        };
        int[] told = {0, 2, 3};
        for (long seed = 0; seed < SEEDS; seed++) {
            Draws draws = new Draws(seed);
            int latest = draws.keeps() ? told[draws.of(3)] : 5;
            int steps = latest == 5 ? 1 : 2;
            dueRun("of three", some, seed, steps, steps, 0, 0, 0, latest);
        }
    }

    private static void anyOfNothing() {
        check.sentence(0, "ANY: if there are any");
        Program some = () -> {
            CallGraphs g = anyOf(3);
            g.type(ABSTRACT, NONE);
            g.member(3, 5, BARE);
            int root = g.member(1, 1, SHARED);
            g.op(root, ANY, 0, 5);
            g.op(root, ANY, 0, 9);
            g.op(root, ANY, 0, 0);
            g.root(3, false);
            g.root(root, true);
            return g;
        };
        for (long seed = 0; seed < SEEDS; seed++) {
            Draws draws = new Draws(seed);
            draws.kept(2);
            int latest = draws.keeps() ? draws.of(3) : 5;
            int steps = latest == 5 ? 1 : 2;
            dueRun("NAMES 5 and 9 tell none", some, seed, steps, steps, 0, 0, 0, latest);
        }
    }

    private static void answers() {
        check.sentence(17, "what = 0 STEPS, 1 how many members ran (each once), 2 objects in the POOL, 3 types begun");
        Program some = () -> {
            CallGraphs g = shared(2);
            g.type(CLASS, 0);
            for (int i = 0; i < 3; i++) g.op(0, NEW, 1, 0);
            for (int i = 0; i < 3; i++) g.op(0, STATIC, 0, 1);
            g.root(0, true);
            return g;
        };
        for (long seed = 0; seed < SEEDS; seed++) {
            Draws draws = new Draws(seed);
            int made = draws.kept(3);
            int calls = draws.kept(3);
            dueRun("three and three", some, seed, 1 + calls, calls > 0 ? 2 : 1, made, made > 0 ? 2 : calls > 0 ? 1 : 0, 0);
        }
    }

    private static void latestMember() {
        check.sentence(17, "5 the member that ran latest (NONE)");
        dueRun("no types", CallGraphs::new, 3, 0, 0, 0, 0, 0, NONE);
        dueRun("no ROOT", () -> shared(2), 3, 0, 0, 0, 0, 0, NONE);
        Program chain = () -> {
            CallGraphs g = shared(3);
            g.op(2, STATIC, 0, 1);
            g.op(1, STATIC, 0, 0);
            g.root(2, true);
            return g;
        };
        for (long seed = 0; seed < 20; seed++) {
            Draws draws = new Draws(seed);
            int latest = !draws.keeps() ? 2 : !draws.keeps() ? 1 : 0;
            check.due("of a row: run(" + seed + ", 5)", chain.make().run(seed, 5), latest);
        }
        Program gone = () -> {
            CallGraphs g = shared(1);
            g.root(0, true);
            g.run(1, 5);
            g.root(0, false);
            return g;
        };
        dueRun("a ROOT that is none now", gone, 1, 0, 0, 0, 0, 0, NONE);
    }

    private static void outside() {
        check.sentence(17, "OUTSIDE");
        CallGraphs g = shared(1);
        g.root(0, true);
        int[] wrong = {-1, 6, LEAST, GREATEST};
        for (int what : wrong) {
            check.due("run(1, " + what + ")", g.run(1, what), OUTSIDE);
            check.due("new: run(1, " + what + ")", new CallGraphs().run(1, what), OUTSIDE);
        }
        check.due("run(1, 0)", g.run(1, 0), 1);
        check.due("run(1, 5)", g.run(1, 5), 0);
    }

    private static void runChangesNothing() {
        check.sentence(17, "Of a RUN (it is played apart: the GRAPH and what was told stay)");
        CallGraphs g = makesTwenty();
        int[] due = {1, 1, 20, 1, 1, 1, 1, 0, 0, 0};
        for (long seed = 0; seed < 20; seed++) {
            g.run(seed, 0);
            for (int what = 0; what < 10; what++) check.due("count(" + what + ")", g.count(what), due[what]);
            check.due("run(" + seed + ", 2) again", g.run(seed, 2), new Draws(seed).kept(20));
        }
    }
}
