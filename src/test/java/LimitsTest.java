/** What is to be run within 12 others, or behind 300 STEPS, in a RUN (promise 17), sentence by sentence. */
public final class LimitsTest implements Words {
    private static final int SEEDS = 400;
    private static final Check check = new Check("LimitsTest");

    private interface Program {
        CallGraphs make();
    }

    public static void main(String[] args) {
        withinTwelveOthers();
        withinTwelveByUp();
        withinTwelveByBag();
        startsWithinTwelve();
        rootsAreWithinNone();
        nothingElseIsStoppedWithinTwelve();
        staticWithinTwelveBegins();
        behindThreeHundred();
        theThreeHundredth();
        nothingElseIsStoppedBehind300();
        drawsGoOn();
        rootsBehind300();
        startsBehind300();
        callsThatWereLeft();
        check.end();
    }

    private static CallGraphs shared(int n) {
        CallGraphs g = new CallGraphs();
        g.type(CLASS, NONE);
        for (int name = 0; name < n; name++) g.member(0, name, SHARED);
        return g;
    }

    private static void dueRun(String of, Program program, long seed, int... due) {
        CallGraphs g = program.make();
        for (int what = 0; what < due.length; what++) {
            check.due(of + ": run(" + seed + ", " + what + ")", g.run(seed, what), due[what]);
        }
    }

    /** NEW by root 0, then root 1 calls itself by an OP of a kind, as deep as that goes. */
    private static CallGraphs callsItself(int kind) {
        CallGraphs g = new CallGraphs();
        g.type(CLASS, NONE);
        g.member(0, 0, SHARED);
        g.member(0, 9, kind == STATIC ? SHARED : PLAIN);
        g.op(0, NEW, 0, 0);
        g.op(1, kind, 0, 9);
        g.root(0, true);
        g.root(1, true);
        return g;
    }

    private static void withinTwelveOthers() {
        check.sentence(0, "What is to be run within 12 others is not (CALL, THREAD, STATIC, ANY)");
        int[] kinds = {CALL, THREAD, STATIC, ANY};
        for (int kind : kinds) {
            boolean pooled = kind == CALL || kind == THREAD;
            int[] seen = new int[13];
            for (long seed = 0; seed < SEEDS; seed++) {
                Draws draws = new Draws(seed);
                int made = draws.kept(1);
                int calls = 0;
                while (calls < 12 && draws.keeps() && (!pooled || made == 1)) {
                    if (kind != STATIC) draws.of(1);
                    calls++;
                }
                seen[calls]++;
                int begun = made == 1 || kind == STATIC && calls > 0 ? 1 : 0;
                dueRun("kind " + kind, () -> callsItself(kind), seed, 2 + Math.min(11, calls), 2, made, begun, calls / 12, 1);
            }
            check.due("kind " + kind + ": some seeds call 10, 11 and 12 times", seen[10] > 0 && seen[11] > 0 && seen[12] > 0, true);
        }
    }

    /** UP goes one type up at a time: a row of 16 classes, from the last one up. */
    private static void withinTwelveByUp() {
        check.sentence(0, "What is to be run within 12 others is not (UP)");
        Program row = () -> {
            CallGraphs g = new CallGraphs();
            for (int t = 0; t < 16; t++) {
                g.type(CLASS, t - 1);
                g.member(t, 0, PLAIN);
                g.op(t, UP, t - 1, 0);
            }
            g.root(15, true);
            return g;
        };
        int[] seen = new int[13];
        for (long seed = 0; seed < SEEDS; seed++) {
            Draws draws = new Draws(seed);
            int calls = 0;
            while (calls < 12 && draws.keeps()) calls++;
            seen[calls]++;
            int steps = 1 + Math.min(11, calls);
            dueRun("a row", row, seed, steps, steps, 0, 0, calls / 12, 16 - steps);
        }
        check.due("some seeds go 11 and 12 up", seen[11] > 0 && seen[12] > 0, true);
    }

    private static void withinTwelveByBag() {
        check.sentence(0, "What is to be run within 12 others is not (OUT)");
        Program bag = () -> {
            CallGraphs g = shared(2);
            g.op(0, PUT, 3, 1);
            g.op(1, OUT, 3, 0);
            g.root(0, true);
            g.root(1, true);
            return g;
        };
        int[] seen = new int[13];
        for (long seed = 0; seed < SEEDS; seed++) {
            Draws draws = new Draws(seed);
            boolean put = draws.keeps();
            int calls = 0;
            while (calls < 12 && draws.keeps() && put) {
                draws.of(1);
                calls++;
            }
            seen[calls]++;
            dueRun("itself in a BAG", bag, seed, 2 + Math.min(11, calls), 2, 0, 0, calls / 12, 1);
        }
        check.due("some seeds go 11 and 12 deep", seen[11] > 0 && seen[12] > 0, true);
    }

    /** Each START makes an object of the next class. */
    private static void startsWithinTwelve() {
        check.sentence(0, "What is to be run within 12 others is not (a START)");
        Program row = () -> {
            CallGraphs g = new CallGraphs();
            for (int t = 0; t < 16; t++) g.type(CLASS, NONE);
            g.member(0, 0, SHARED);
            for (int t = 1; t < 16; t++) g.member(t, 0, START);
            for (int t = 0; t < 15; t++) g.op(t, NEW, t + 1, 0);
            g.root(0, true);
            return g;
        };
        int[] seen = new int[13];
        for (long seed = 0; seed < SEEDS; seed++) {
            Draws draws = new Draws(seed);
            int made = 0;
            while (made < 12 && draws.keeps()) made++;
            seen[made]++;
            int steps = 1 + Math.min(11, made);
            dueRun("a row of STARTS", row, seed, steps, steps, made, made, made / 12, steps - 1);
        }
        check.due("some seeds go 11 and 12 deep", seen[11] > 0 && seen[12] > 0, true);
    }

    private static void rootsAreWithinNone() {
        check.sentence(0, "within 12 others (a ROOT is within none, whatever ran before it)");
        Program many = () -> {
            CallGraphs g = new CallGraphs();
            for (int t = 0; t < 5; t++) g.type(CLASS, NONE);
            for (int m = 0; m < 48; m++) {
                g.member(m / 10, m % 10, SHARED);
                g.root(m, true);
            }
            for (int m = 0; m < 48; m++) g.op(m, STATIC, m / 10, m % 10);
            return g;
        };
        for (long seed = 0; seed < 20; seed++) {
            Draws draws = new Draws(seed);
            int steps = 0;
            int left = 0;
            for (int m = 0; m < 48; m++) {
                int calls = 0;
                while (calls < 12 && draws.keeps()) calls++;
                steps += 1 + Math.min(11, calls);
                left += calls / 12;
            }
            CallGraphs g = many.make();
            check.due("48 ROOTS: run(" + seed + ", 0)", g.run(seed, 0), steps);
            check.due("48 ROOTS: run(" + seed + ", 1)", g.run(seed, 1), 48);
            check.due("48 ROOTS: run(" + seed + ", 4)", g.run(seed, 4), left);
        }
    }

    /** A row of 12 members in classes 0 and 1; class 3 is of 2, and no one begins them yet. */
    private static CallGraphs rowOfTwelve() {
        CallGraphs g = new CallGraphs();
        for (int t = 0; t < 3; t++) g.type(CLASS, NONE);
        g.type(CLASS, 2);
        for (int m = 0; m < 12; m++) g.member(m / 10, m % 10, SHARED);
        for (int m = 0; m < 11; m++) g.op(m, STATIC, (m + 1) / 10, (m + 1) % 10);
        g.root(0, true);
        return g;
    }

    private static void nothingElseIsStoppedWithinTwelve() {
        check.sentence(0, "(nothing else is stopped by that): within 12");
        Program row = () -> {
            CallGraphs g = rowOfTwelve();
            g.member(2, 0, START);
            g.member(3, 0, START);
            g.op(11, NEW, 3, 0);
            g.op(11, PUT, 0, 10);
            g.op(11, NEW, 2, 0);
            g.op(10, OUT, 0, 0);
            return g;
        };
        int deep = 0;
        for (long seed = 0; seed < SEEDS; seed++) {
            Draws draws = new Draws(seed);
            int calls = 0;
            while (calls < 11 && draws.keeps()) calls++;
            if (calls < 11) continue;
            boolean made = draws.keeps();
            boolean put = draws.keeps();
            boolean again = draws.keeps();
            boolean out = draws.keeps() && put;
            if (out) continue;
            deep++;
            int objects = (made ? 1 : 0) + (again ? 1 : 0);
            int starts = made ? 2 : again ? 1 : 0;
            dueRun("the 12th", row, seed, 12, 12, objects, 2 + starts, starts, 11);
        }
        check.due("some seeds go so deep", deep > 0, true);
    }

    private static void staticWithinTwelveBegins() {
        check.sentence(0, "(nothing else is stopped by that): STATIC begins its type, though it is not run");
        Program row = () -> {
            CallGraphs g = rowOfTwelve();
            g.member(2, 0, SHARED);
            g.member(2, 0, START);
            g.op(11, STATIC, 3, 0);
            return g;
        };
        int deep = 0;
        for (long seed = 0; seed < SEEDS; seed++) {
            if (new Draws(seed).kept(12) < 12) continue;
            deep++;
            dueRun("START and member are left", row, seed, 12, 12, 0, 3, 2, 11);
        }
        check.due("some seeds go so deep", deep > 0, true);
    }

    /** ROOT 0 calls 1 up to so many times, which calls 2 up to 24 times. */
    private static CallGraphs fan(int calls) {
        CallGraphs g = shared(3);
        for (int i = 0; i < calls; i++) g.op(0, STATIC, 0, 1);
        for (int i = 0; i < 24; i++) g.op(1, STATIC, 0, 2);
        g.root(0, true);
        return g;
    }

    /** What is due of the fan, if so many STEPS are the most. */
    private static final class Fan {
        private final Draws draws;
        private final int most;
        private int steps = 1;
        private int left;
        private int latest;

        Fan(long seed, int calls, int most) {
            draws = new Draws(seed);
            this.most = most;
            for (int i = 0; i < calls; i++) {
                if (!draws.keeps() || !enter(1)) continue;
                for (int k = 0; k < 24; k++) {
                    if (draws.keeps()) enter(2);
                }
            }
        }

        private boolean enter(int member) {
            if (steps >= most) {
                left++;
                return false;
            }
            steps++;
            latest = member;
            return true;
        }
    }

    private static void behindThreeHundred() {
        check.sentence(0, "What is to be run behind 300 STEPS is not");
        for (long seed = 0; seed < SEEDS; seed++) {
            Fan due = new Fan(seed, 24, 300);
            dueRun("a fan", () -> fan(24), seed, due.steps, 3, 0, 1, due.left, due.latest);
        }
    }

    private static void theThreeHundredth() {
        check.sentence(0, "behind 300 STEPS (the 300th is run, the 301st is not)");
        int[] all = {299, 300, 301};
        int[] steps = {299, 300, 300};
        for (int i = 0; i < 3; i++) {
            long seed = 0;
            while (seed < 100_000 && new Fan(seed, 24, GREATEST).steps != all[i]) seed++;
            Fan due = new Fan(seed, 24, 300);
            dueRun("a fan of " + all[i], () -> fan(24), seed, steps[i], 3, 0, 1, due.left, due.latest);
            check.due("some are left: run(" + seed + ", 4)", fan(24).run(seed, 4) > 0, i == 2);
        }
    }

    private static void nothingElseIsStoppedBehind300() {
        check.sentence(0, "(nothing else is stopped by that): behind 300");
        Program late = () -> {
            CallGraphs g = fan(21);
            g.type(CLASS, NONE);
            g.type(CLASS, 1);
            g.op(0, NEW, 2, 0);
            g.op(0, PUT, 0, 2);
            g.op(0, OUT, 0, 0);
            return g;
        };
        int stopped = 0;
        for (long seed = 0; seed < SEEDS; seed++) {
            Fan fan = new Fan(seed, 21, 300);
            if (fan.steps < 300) continue;
            stopped++;
            int made = fan.draws.kept(1);
            int put = fan.draws.kept(1);
            int out = fan.draws.kept(1);
            dueRun("NEW, PUT, OUT", late, seed, 300, 3, made, 1 + 2 * made, fan.left + put * out, fan.latest);
        }
        check.due("some seeds go so far", stopped > 0, true);
    }

    /** The objects that are made behind the limits tell that each OP there still draws. */
    private static void drawsGoOn() {
        check.sentence(0, "(nothing else is stopped by that): the draws go on");
        Program tree = () -> {
            CallGraphs g = shared(2);
            for (int i = 0; i < 3; i++) g.op(0, STATIC, 0, 0);
            for (int i = 0; i < 4; i++) g.op(0, NEW, 0, 0);
            g.root(0, true);
            return g;
        };
        int stopped = 0;
        for (long seed = 0; seed < SEEDS; seed++) {
            Tree due = new Tree(seed);
            due.enter(0);
            if (due.left > 0) stopped++;
            dueRun("a tree", tree, seed, due.steps, 1, Math.min(20, due.made), due.begun, due.left, 0);
        }
        check.due("some seeds go too far", stopped > 20, true);
    }

    /** A member that calls itself up to three times, then makes up to four objects. */
    private static final class Tree {
        private final Draws draws;
        private int steps;
        private int left;
        private int made;
        private int begun;

        Tree(long seed) {
            draws = new Draws(seed);
        }

        void enter(int within) {
            if (within == 12 || steps == 300) {
                left++;
                return;
            }
            steps++;
            for (int i = 0; i < 3; i++) {
                if (!draws.keeps()) continue;
                begun = 1;
                enter(within + 1);
            }
            int objects = draws.kept(4);
            made += objects;
            if (objects > 0) begun = 1;
        }
    }

    private static void rootsBehind300() {
        check.sentence(17, "4 calls that were left, behind 300 STEPS (ROOTS too)");
        for (long seed = 0; seed < 20; seed++) {
            int left = deepRoots(0).run(seed, 4);
            for (int more = 1; more < 4; more++) {
                int roots = more;
                dueRun("with " + more + " ROOTS more", () -> deepRoots(roots), seed, 300, 1, 0, 1, left + more, 0);
            }
        }
    }

    private static CallGraphs deepRoots(int more) {
        CallGraphs g = shared(4);
        for (int i = 0; i < 24; i++) g.op(0, STATIC, 0, 0);
        for (int m = 0; m <= more; m++) g.root(m, true);
        return g;
    }

    private static void startsBehind300() {
        check.sentence(17, "4 calls that were left, behind 300 STEPS (a START too)");
        Program late = () -> {
            CallGraphs g = fan(23);
            g.type(CLASS, NONE);
            g.member(1, 0, START);
            g.op(0, NEW, 1, 0);
            return g;
        };
        int stopped = 0;
        for (long seed = 0; seed < SEEDS; seed++) {
            Fan fan = new Fan(seed, 23, 300);
            boolean full = fan.steps == 300;
            int made = fan.draws.kept(1);
            int ran = full ? 0 : made;
            if (full) stopped += made;
            int latest = ran == 1 ? 3 : fan.latest;
            dueRun("a START", late, seed, fan.steps + ran, 3 + ran, made, 1 + made, fan.left + made - ran, latest);
        }
        check.due("some seeds go so far", stopped > 0, true);
    }

    private static void callsThatWereLeft() {
        check.sentence(17, "4 calls that were left (none, if neither the 12 nor the 300 is come to)");
        for (long seed = 0; seed < SEEDS; seed++) {
            CallGraphs g = shared(3);
            g.type(CLASS, 0);
            g.op(0, STATIC, 0, 1);
            g.op(0, STATIC, 0, 9);
            g.op(0, CALL, 1, 2);
            g.op(0, NEW, 1, 0);
            g.op(0, CALL, 1, 8);
            g.op(0, OUT, 0, 0);
            g.op(0, ANY, 0, 8);
            g.root(0, true);
            check.due("FAULTS and what is left out: run(" + seed + ", 4)", g.run(seed, 4), 0);
        }
    }
}
