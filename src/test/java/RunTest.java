/** Promises 17 (run) and 18 (holds). What is due is told from the draws themselves. */
public final class RunTest {
    private static final int PLAIN = 0, SHARED = 2, START = 4;
    private static final int NEW = 0, CALL = 1, UP = 2, STATIC = 3, THREAD = 4, PUT = 5, OUT = 6, ANY = 7;
    private static final int SEEDS = 60;
    private static final Check check = new Check("RunTest");

    private static long x;

    public static void main(String[] args) {
        rootsRun();
        withinTwelve();
        behindThreeHundred();
        startsWithinTwelve();
        poolOfTwenty();
        poolGoesOn();
        placesInThePool();
        faultsDrawToo();
        upAndStatic();
        bagsInOrder();
        anyByNumbers();
        orderOfBeginning();
        begunOnce();
        seeds();
        holds();
        check.end();
    }

    private static int draw(int n) {
        x = x * 6364136223846793005L + 1442695040888963407L;
        return (int) ((x >>> 33) % n);
    }

    private static boolean kept() {
        return draw(4) != 0;
    }

    private static CallGraphs shared(int n) {
        CallGraphs g = new CallGraphs();
        g.type(0, -1);
        for (int name = 0; name < n; name++) g.member(0, name, SHARED);
        return g;
    }

    private static void dueRun(String of, CallGraphs g, long seed, int... due) {
        for (int what = 0; what < due.length; what++) {
            check.due(of + ": run(" + seed + ", " + what + ")", g.run(seed, what), due[what]);
        }
    }

    private static void rootsRun() {
        CallGraphs g = shared(4);
        dueRun("no roots", g, 1, 0, 0, 0, 0, 0, CallGraphs.NONE);
        g.root(3, true);
        g.root(1, true);
        dueRun("roots by their numbers", g, 1, 2, 2, 0, 0, 0, 3);
        check.due("what -1", g.run(1, -1), CallGraphs.OUTSIDE);
        check.due("what 6", g.run(1, 6), CallGraphs.OUTSIDE);
    }

    private static void withinTwelve() {
        CallGraphs g = shared(1);
        g.op(0, STATIC, 0, 0);
        g.root(0, true);
        for (int seed = 0; seed < SEEDS * 10; seed++) {
            x = seed;
            int calls = 0;
            while (calls < 12 && kept()) calls++;
            dueRun("12", g, seed, Math.min(12, 1 + calls), 1, 0, calls > 0 ? 1 : 0, calls == 12 ? 1 : 0, 0);
        }
    }

    private static void behindThreeHundred() {
        CallGraphs g = shared(3);
        for (int i = 0; i < 24; i++) g.op(0, STATIC, 0, 0);
        g.op(1, NEW, 0, 0);
        g.root(0, true);
        for (int seed = 0; seed < SEEDS; seed++) {
            check.due("300: run(" + seed + ", 0)", g.run(seed, 0), 300);
            int left = g.run(seed, 4);
            g.root(1, true);
            g.root(2, true);
            dueRun("two roots behind 300", g, seed, 300, 1, 0, 1, left + 2, 0);
            g.root(1, false);
            g.root(2, false);
        }
    }

    /** A chain of 12 STATIC calls; the last one makes an object, whose START is within 12 others. */
    private static void startsWithinTwelve() {
        CallGraphs g = new CallGraphs();
        g.type(0, -1);
        g.type(0, -1);
        g.type(0, -1);
        for (int m = 0; m < 12; m++) g.member(m / 10, m % 10, SHARED);
        for (int m = 0; m < 11; m++) g.op(m, STATIC, (m + 1) / 10, (m + 1) % 10);
        g.op(11, NEW, 2, 0);
        g.member(2, 0, START);
        g.root(0, true);
        int deep = 0;
        for (int seed = 0; seed < SEEDS * 10; seed++) {
            x = seed;
            int calls = 0;
            while (calls < 12 && kept()) calls++;
            if (calls < 12) continue;
            deep++;
            dueRun("START within 12", g, seed, 12, 12, 1, 3, 1, 11);
        }
        check.due("some seeds go so deep", deep > 0, true);
    }

    private static void poolOfTwenty() {
        CallGraphs g = shared(2);
        for (int i = 0; i < 48; i++) g.op(i / 24, NEW, 0, 0);
        g.root(0, true);
        for (int seed = 0; seed < SEEDS; seed++) {
            x = seed;
            int made = 0;
            for (int i = 0; i < 24; i++) made += kept() ? 1 : 0;
            check.due("24 NEW: run(" + seed + ", 2)", g.run(seed, 2), Math.min(20, made));
        }
        g.root(1, true);
        for (int seed = 0; seed < SEEDS; seed++) {
            x = seed;
            int made = 0;
            for (int i = 0; i < 48; i++) made += kept() ? 1 : 0;
            check.due("48 NEW: run(" + seed + ", 2)", g.run(seed, 2), Math.min(20, made));
        }
    }

    private static void poolGoesOn() {
        CallGraphs g = shared(2);
        g.member(0, 9, PLAIN);
        g.op(0, NEW, 0, 0);
        g.op(1, THREAD, 0, 0);
        g.op(1, CALL, 0, 9);
        g.root(0, true);
        g.root(1, true);
        for (int seed = 0; seed < SEEDS; seed++) {
            x = seed;
            int pool = kept() ? 1 : 0;
            int calls = 0;
            for (int i = 0; i < 2; i++) {
                if (!kept() || pool == 0) continue;
                draw(1);
                calls++;
            }
            dueRun("two roots", g, seed, 2 + calls, calls > 0 ? 3 : 2, pool, pool, 0, calls > 0 ? 2 : 1);
        }
    }

    /** Classes 1, 2 UNDER 0, and 3 not; objects in the order 2, 3, 1, and a call that comes to one of the two. */
    private static void placesInThePool() {
        CallGraphs g = new CallGraphs();
        g.type(2, -1);
        for (int c = 1; c < 4; c++) g.type(0, -1);
        g.face(1, 0);
        g.face(2, 0);
        g.member(0, 0, 1);
        g.member(1, 0, PLAIN);
        g.member(2, 0, PLAIN);
        g.member(3, 0, PLAIN);
        int root = g.member(3, 1, SHARED);
        g.root(root, true);
        int[] made = {2, 3, 1};
        for (int c : made) g.op(root, NEW, c, 0);
        g.op(root, CALL, 0, 0);
        for (int seed = 0; seed < SEEDS * 2; seed++) {
            x = seed;
            int[] fitting = new int[3];
            int pool = 0;
            int n = 0;
            for (int c : made) {
                if (!kept()) continue;
                pool++;
                if (c != 3) fitting[n++] = c;
            }
            int latest = kept() && n > 0 ? fitting[draw(n)] : root;
            int steps = latest == root ? 1 : 2;
            dueRun("places", g, seed, steps, steps, pool, pool, 0, latest);
        }
    }

    private static void faultsDrawToo() {
        CallGraphs g = shared(3);
        g.op(0, NEW, 0, 0);
        g.op(0, CALL, 0, 7);
        g.op(0, CALL, 0, 1);
        g.op(0, STATIC, 0, 8);
        g.op(0, ANY, 0, 8);
        g.op(0, OUT, 0, 0);
        g.op(0, STATIC, 0, 2);
        g.root(0, true);
        for (int seed = 0; seed < SEEDS; seed++) {
            x = seed;
            boolean made = kept();
            for (int i = 0; i < 2; i++) {
                if (kept() && made) draw(1);
            }
            for (int i = 0; i < 3; i++) kept();
            boolean called = kept();
            int steps = called ? 2 : 1;
            dueRun("faults", g, seed, steps, steps, made ? 1 : 0, made || called ? 1 : 0, 0, called ? 2 : 0);
        }
    }

    private static void upAndStatic() {
        CallGraphs g = new CallGraphs();
        g.type(0, -1);
        g.type(0, 0);
        g.member(0, 0, PLAIN);
        g.member(0, 1, SHARED);
        g.member(0, 0, START);
        int root = g.member(1, 0, PLAIN);
        g.op(root, UP, 0, 0);
        g.op(root, STATIC, 1, 1);
        g.root(root, true);
        for (int seed = 0; seed < SEEDS; seed++) {
            x = seed;
            boolean up = kept();
            boolean shared = kept();
            int steps = 1 + (up ? 1 : 0) + (shared ? 2 : 0);
            dueRun("UP, STATIC", g, seed, steps, steps, 0, shared ? 1 : 0, 0, shared ? 1 : up ? 0 : root);
        }
    }

    private static void bagsInOrder() {
        CallGraphs g = shared(4);
        int[] put = {3, 1, 3, 2, 1};
        for (int m : put) g.op(0, PUT, 3, m);
        g.op(0, PUT, 2, 0);
        g.op(0, OUT, 3, 0);
        g.root(0, true);
        for (int seed = 0; seed < SEEDS * 2; seed++) {
            x = seed;
            int[] bag = new int[3];
            int n = 0;
            for (int m : put) {
                if (!kept()) continue;
                boolean there = false;
                for (int i = 0; i < n; i++) there |= bag[i] == m;
                if (!there) bag[n++] = m;
            }
            kept();
            int latest = kept() && n > 0 ? bag[draw(n)] : 0;
            int steps = latest == 0 ? 1 : 2;
            dueRun("bag", g, seed, steps, steps, 0, 0, 0, latest);
        }
    }

    private static void anyByNumbers() {
        CallGraphs g = new CallGraphs();
        for (int t = 0; t < 4; t++) g.type(1, -1);
        g.member(3, 0, PLAIN);
        g.member(2, 0, 1);
        g.member(1, 0, 3);
        g.member(0, 0, SHARED);
        int root = g.member(0, 1, SHARED);
        g.op(root, ANY, 0, 0);
        g.root(root, true);
        int[] told = {0, 2, 3};
        for (int seed = 0; seed < SEEDS; seed++) {
            x = seed;
            int latest = kept() ? told[draw(3)] : root;
            int steps = latest == root ? 1 : 2;
            dueRun("ANY", g, seed, steps, steps, 0, 0, 0, latest);
        }
    }

    /** The SUPER, then faces by numbers, then the type itself: seen by which of their STARTS runs latest. */
    private static void orderOfBeginning() {
        for (int without = 0; without < 4; without++) {
            CallGraphs g = new CallGraphs();
            g.type(2, -1);
            g.type(2, -1);
            g.type(2, -1);
            g.type(0, -1);
            g.type(0, 3);
            g.face(4, 1);
            g.face(4, 0);
            g.face(4, 2);
            g.member(0, 0, PLAIN);
            g.member(1, 1, PLAIN);
            g.member(2, 2, SHARED);
            int root = g.member(3, 9, SHARED);
            g.root(root, true);
            g.op(root, NEW, 4, 0);
            int[] order = {3, 0, 1, 4};
            int latest = root;
            g.member(2, 0, START);
            for (int i = 0; i < 4 - without; i++) latest = g.member(order[i], 0, START);
            for (int seed = 0; seed < 8; seed++) {
                x = seed;
                boolean made = kept();
                int starts = made ? 4 - without : 0;
                dueRun("begin, without " + without, g, seed, 1 + starts, 1 + starts, made ? 1 : 0, made ? 4 : 0, 0,
                        made ? latest : root);
            }
        }
    }

    private static void begunOnce() {
        CallGraphs g = shared(1);
        g.type(0, 0);
        g.member(0, 0, START);
        g.member(1, 0, START);
        g.op(1, NEW, 1, 0);
        g.op(0, NEW, 1, 0);
        g.op(0, NEW, 1, 0);
        g.root(0, true);
        for (int seed = 0; seed < SEEDS; seed++) {
            x = seed;
            int made = 0;
            if (kept()) made += kept() ? 2 : 1;
            if (kept()) made += made > 0 ? 1 : kept() ? 2 : 1;
            boolean any = made > 0;
            dueRun("begun once", g, seed, any ? 3 : 1, any ? 3 : 1, made, any ? 2 : 0, 0, any ? 2 : 0);
        }
    }

    private static void seeds() {
        CallGraphs g = shared(1);
        for (int i = 0; i < 20; i++) g.op(0, NEW, 0, 0);
        g.root(0, true);
        long[] seeds = {Long.MIN_VALUE, Long.MAX_VALUE, -1L, 1L << 33, 0x123456789abcdefL};
        for (long seed : seeds) {
            x = seed;
            int made = 0;
            for (int i = 0; i < 20; i++) made += kept() ? 1 : 0;
            check.due("run(" + seed + ", 2)", g.run(seed, 2), made);
            check.due("run(" + seed + ", 2) again", g.run(seed, 2), made);
        }
    }

    /** All kinds of OPS, in a program that goes deep and long. */
    private static void holds() {
        CallGraphs g = new CallGraphs();
        g.type(2, -1);
        g.type(1, -1);
        g.face(1, 0);
        g.type(0, 1);
        g.type(0, 2);
        g.member(0, 0, PLAIN);
        g.member(1, 0, PLAIN);
        g.member(3, 9, PLAIN);
        g.member(2, 1, SHARED);
        for (int t = 0; t < 4; t++) g.member(t, 0, START);
        int[][] ops = {{NEW, 3, 0}, {CALL, 0, 0}, {CALL, 1, 5}, {STATIC, 3, 1}, {THREAD, 1, 0}, {PUT, 1, 2}, {OUT, 1, 0},
            {ANY, 0, 0}, {NEW, 2, 0}};
        for (int m = 1; m < 8; m++) {
            for (int[] op : ops) g.op(m, op[0], op[1], op[2]);
        }
        g.op(1, UP, 0, 0);
        g.op(2, UP, 2, 0);
        check.due("holds without roots", g.holds(0), true);
        g.root(3, true);
        g.root(2, true);
        int left = 0;
        for (long seed = -40; seed < 40; seed++) {
            check.due("holds(" + seed + ")", g.holds(seed), true);
            left += g.run(seed, 4);
        }
        check.due("some calls were left", left > 0, true);
        g.root(3, false);
        g.root(2, false);
        check.due("holds without roots again", g.holds(1), true);
    }
}
