/** Promises 11 (about), 15 (caller) and 16 (way), sentence by sentence. */
public final class WaysTest implements Words {
    private static final Check check = new Check("WaysTest");

    public static void main(String[] args) {
        whetherReached();
        whetherRecursive();
        recursiveByEachOp();
        howManyCall();
        howManyOfTheRing();
        theLeastOfTheRing();
        noRing();
        allInOneRing();
        aboutUnknown();
        aboutOutside();
        callersByNumbers();
        callerNone();
        callerUnknown();
        wayFromARootToIt();
        ofTheFewest();
        ofSeveralTheLesser();
        atTheFirstThatDiffers();
        wayToARoot();
        longestWay();
        wayNone();
        wayOfOneNotReached();
        wayUnknown();
        check.end();
    }

    /** Classes with n STATIC members in all, ten of each. */
    private static CallGraphs shared(int n) {
        CallGraphs g = new CallGraphs();
        for (int t = 0; t < (n + 9) / 10; t++) g.type(CLASS, NONE);
        for (int m = 0; m < n; m++) g.member(m / 10, m % 10, SHARED);
        return g;
    }

    private static void call(CallGraphs g, int from, int... members) {
        for (int m : members) g.op(from, STATIC, m / 10, m % 10);
    }

    private static void dueAll(String of, CallGraphs g, int what, int... due) {
        for (int m = 0; m < due.length; m++) check.due(of + ": about(" + m + ", " + what + ")", g.about(m, what), due[m]);
    }

    private static void dueCallers(String of, CallGraphs g, int member, int... due) {
        for (int i = 0; i < due.length; i++) check.due(of + ": caller " + i, g.caller(member, i), due[i]);
        check.due(of + ": no more callers", g.caller(member, due.length), NONE);
    }

    private static void dueWay(String of, CallGraphs g, int member, int... due) {
        for (int i = 0; i < due.length; i++) check.due(of + ": way " + i, g.way(member, i), due[i]);
        check.due(of + ": the way ends", g.way(member, due.length), NONE);
    }

    private static void whetherReached() {
        check.sentence(11, "what = 0 whether it is REACHED");
        CallGraphs g = shared(5);
        call(g, 0, 1);
        call(g, 1, 2);
        call(g, 3, 4);
        dueAll("no ROOT", g, 0, 0, 0, 0, 0, 0);
        g.root(0, true);
        dueAll("from 0", g, 0, 1, 1, 1, 0, 0);
        g.root(0, false);
        g.root(3, true);
        dueAll("from 3", g, 0, 0, 0, 0, 1, 1);
    }

    /** 0 calls 3; 3, 1, 2 are a ring; 1 calls 4, which calls itself and 5; 6 and 7 are a ring, not REACHED; 8 is alone. */
    private static CallGraphs rings() {
        CallGraphs g = shared(9);
        call(g, 0, 3);
        call(g, 3, 1);
        call(g, 1, 2, 4);
        call(g, 2, 3);
        call(g, 4, 4, 5);
        call(g, 6, 7);
        call(g, 7, 6);
        g.root(0, true);
        return g;
    }

    private static void whetherRecursive() {
        check.sentence(11, "1 whether it is RECURSIVE (and REACHED)");
        CallGraphs g = rings();
        dueAll("from 0", g, 1, 0, 1, 1, 1, 1, 0, 0, 0, 0);
        check.due("count(9)", g.count(9), 4);
        g.root(7, true);
        dueAll("from 0 and 7", g, 1, 0, 1, 1, 1, 1, 0, 1, 1, 0);
        check.due("count(9) then", g.count(9), 6);
        g.root(0, false);
        dueAll("from 7", g, 1, 0, 0, 0, 0, 0, 0, 1, 1, 0);
    }

    private static void recursiveByEachOp() {
        check.sentence(0, "A member is RECURSIVE, if from it, by CALLEES, one comes to it again");
        int[][] ops = {{CALL, 0, 9}, {STATIC, 0, 1}, {THREAD, 0, 0}, {OUT, 0, 0}, {ANY, 0, 2}};
        int[] members = {0, 1, 0, 2, 2};
        for (int i = 0; i < ops.length; i++) {
            CallGraphs g = new CallGraphs();
            g.type(CLASS, NONE);
            g.member(0, 9, PLAIN);
            g.member(0, 1, SHARED);
            g.member(0, 2, PRIVATE);
            int m = members[i];
            g.root(m, true);
            g.op(m, NEW, 0, 0);
            g.op(m, PUT, 0, m);
            check.due("before kind " + ops[i][0], g.about(m, 1), 0);
            g.op(m, ops[i][0], ops[i][1], ops[i][2]);
            check.due("by kind " + ops[i][0], g.about(m, 1), 1);
        }
        CallGraphs start = shared(1);
        start.member(0, 0, START);
        start.op(1, NEW, 0, 0);
        start.op(0, NEW, 0, 0);
        start.root(0, true);
        check.due("a START, by NEW", start.about(1, 1), 1);
        check.due("the one that begins it", start.about(0, 1), 0);
        CallGraphs up = new CallGraphs();
        up.type(CLASS, NONE);
        up.type(CLASS, 0);
        up.member(0, 0, PLAIN);
        up.member(1, 0, PLAIN);
        up.op(1, UP, 0, 0);
        up.op(0, ANY, 0, 0);
        up.root(1, true);
        check.due("by UP and ANY", up.about(1, 1), 1);
    }

    private static void howManyCall() {
        check.sentence(11, "2 how many members call it (each once)");
        CallGraphs g = shared(6);
        call(g, 0, 1, 1, 2, 0);
        call(g, 1, 2);
        call(g, 2, 2, 2, 0);
        call(g, 4, 1, 2, 3);
        dueAll("no ROOT", g, 2, 0, 0, 0, 0, 0, 0);
        g.root(0, true);
        dueAll("from 0", g, 2, 2, 1, 3, 0, 0, 0);
        g.root(4, true);
        dueAll("from 0 and 4", g, 2, 2, 2, 4, 1, 0, 0);
        CallGraphs all = shared(48);
        for (int m = 0; m < 48; m++) {
            call(all, m, 47);
            all.root(m, true);
        }
        check.due("all 48 of them", all.about(47, 2), 48);
        check.due("none", all.about(0, 2), 0);
    }

    private static void howManyOfTheRing() {
        check.sentence(11, "3 how many members of its RING there are");
        CallGraphs g = rings();
        dueAll("from 0", g, 3, 0, 3, 3, 3, 1, 0, 0, 0, 0);
        call(g, 5, 0);
        dueAll("5 calls 0: all come to one another", g, 3, 6, 6, 6, 6, 6, 6, 0, 0, 0);
        check.due("5 is not called but by 4", g.about(5, 2), 1);
    }

    private static void theLeastOfTheRing() {
        check.sentence(11, "4 the least of these (NONE)");
        CallGraphs g = rings();
        dueAll("from 0", g, 4, NONE, 1, 1, 1, 4, NONE, NONE, NONE, NONE);
        g.root(7, true);
        dueAll("from 0 and 7", g, 4, NONE, 1, 1, 1, 4, NONE, 6, 6, NONE);
        call(g, 5, 0);
        dueAll("5 calls 0", g, 4, 0, 0, 0, 0, 0, 0, 6, 6, NONE);
    }

    private static void noRing() {
        check.sentence(11, "(0 if it is not RECURSIVE, or not REACHED)");
        CallGraphs g = rings();
        int[] not = {0, 5, 8, 6, 7};
        for (int m : not) {
            check.due("about(" + m + ", 3)", g.about(m, 3), 0);
            check.due("about(" + m + ", 4)", g.about(m, 4), NONE);
        }
        g.root(0, false);
        dueAll("no ROOT: how many", g, 3, 0, 0, 0, 0, 0, 0, 0, 0, 0);
        dueAll("no ROOT: the least", g, 4, NONE, NONE, NONE, NONE, NONE, NONE, NONE, NONE, NONE);
    }

    private static void allInOneRing() {
        check.sentence(0, "its RING are those to which it comes, and from which it comes");
        CallGraphs g = shared(48);
        for (int m = 0; m < 48; m++) call(g, m, (m + 47) % 48);
        g.root(30, true);
        check.due("all 48 are RECURSIVE", g.count(9), 48);
        int[] some = {0, 1, 30, 47};
        for (int m : some) {
            check.due("the ring of " + m, g.about(m, 3), 48);
            check.due("its least", g.about(m, 4), 0);
        }
        CallGraphs two = shared(4);
        call(two, 0, 0, 1);
        call(two, 1, 1, 2);
        call(two, 2, 3);
        call(two, 3, 2);
        two.root(0, true);
        dueAll("one comes to another, and not back", two, 3, 1, 1, 2, 2);
        dueAll("their least", two, 4, 0, 1, 2, 2);
    }

    private static void aboutUnknown() {
        check.sentence(11, "UNKNOWN");
        CallGraphs g = shared(2);
        int[] wrong = {-1, 2, LEAST, GREATEST};
        for (int m : wrong) {
            for (int what = 0; what < 5; what++) check.due("about(" + m + ", " + what + ")", g.about(m, what), UNKNOWN);
        }
        check.due("the last one", g.about(1, 0), 0);
    }

    private static void aboutOutside() {
        check.sentence(11, "OUTSIDE");
        CallGraphs g = shared(2);
        g.root(0, true);
        int[] wrong = {-1, 5, LEAST, GREATEST};
        for (int m = 0; m < 2; m++) {
            for (int what : wrong) check.due("about(" + m + ", " + what + ")", g.about(m, what), OUTSIDE);
        }
        check.due("about(0, 4)", g.about(0, 4), NONE);
    }

    private static void callersByNumbers() {
        check.sentence(15, "The i-th member that calls a member, by numbers");
        CallGraphs g = shared(6);
        int[] from = {4, 1, 5, 0};
        for (int m : from) {
            call(g, m, 2, 2);
            g.root(m, true);
        }
        call(g, 3, 2);
        dueCallers("each once, and none that is not REACHED", g, 2, 0, 1, 4, 5);
        call(g, 2, 2, 3);
        dueCallers("by itself and by one that is REACHED now", g, 2, 0, 1, 2, 3, 4, 5);
        dueCallers("of one", g, 3, 2);
        CallGraphs all = shared(48);
        for (int m = 0; m < 48; m++) {
            call(all, m, 0);
            all.root(m, true);
        }
        for (int i = 0; i < 48; i++) check.due("of 48: caller " + i, all.caller(0, i), i);
        check.due("no 49th", all.caller(0, 48), NONE);
    }

    private static void callerNone() {
        check.sentence(15, "NONE");
        CallGraphs g = shared(3);
        call(g, 0, 1);
        call(g, 2, 1);
        int[] all = {-1, 0, 1, LEAST, GREATEST};
        for (int i : all) check.due("none is REACHED: caller(1, " + i + ")", g.caller(1, i), NONE);
        g.root(0, true);
        int[] wrong = {-1, 1, 48, 64, LEAST, GREATEST};
        for (int i : wrong) check.due("of one: caller(1, " + i + ")", g.caller(1, i), NONE);
        for (int i : all) check.due("of none: caller(0, " + i + ")", g.caller(0, i), NONE);
        check.due("caller(1, 0)", g.caller(1, 0), 0);
    }

    private static void callerUnknown() {
        check.sentence(15, "UNKNOWN");
        CallGraphs g = shared(2);
        int[] wrong = {-1, 2, LEAST, GREATEST};
        for (int m : wrong) {
            check.due("caller(" + m + ", 0)", g.caller(m, 0), UNKNOWN);
            check.due("caller(" + m + ", -1)", g.caller(m, -1), UNKNOWN);
        }
        check.due("the last one", g.caller(1, 0), NONE);
    }

    private static void wayFromARootToIt() {
        check.sentence(16, "a row from a ROOT to it, each a CALLEE of the one before");
        CallGraphs g = shared(6);
        call(g, 5, 3);
        call(g, 3, 4);
        call(g, 4, 0);
        call(g, 1, 0);
        g.root(5, true);
        dueWay("to 0", g, 0, 5, 3, 4, 0);
        dueWay("to 4", g, 4, 5, 3, 4);
        dueWay("to 3", g, 3, 5, 3);
        g.root(1, true);
        dueWay("from another ROOT", g, 0, 1, 0);
        g.root(1, false);
        dueWay("that is none now", g, 0, 5, 3, 4, 0);
        CallGraphs start = shared(2);
        start.member(0, 0, START);
        start.op(2, STATIC, 0, 1);
        start.op(0, NEW, 0, 0);
        start.root(0, true);
        dueWay("over a START", start, 1, 0, 2, 1);
    }

    private static void ofTheFewest() {
        check.sentence(16, "of the fewest members");
        CallGraphs g = shared(8);
        call(g, 0, 1);
        call(g, 1, 2);
        call(g, 2, 7);
        call(g, 5, 6);
        call(g, 6, 7);
        g.root(0, true);
        g.root(5, true);
        dueWay("from the greater ROOT, since it is shorter", g, 7, 5, 6, 7);
        call(g, 5, 7);
        dueWay("shorter again", g, 7, 5, 7);
        call(g, 0, 7);
        dueWay("from the lesser, as short", g, 7, 0, 7);
    }

    private static void ofSeveralTheLesser() {
        check.sentence(16, "of several the lesser one");
        CallGraphs g = shared(9);
        call(g, 1, 6, 5);
        call(g, 6, 8);
        call(g, 5, 8);
        g.root(1, true);
        dueWay("over the lesser one, though told later", g, 8, 1, 5, 8);
        call(g, 0, 7);
        call(g, 7, 8);
        g.root(0, true);
        dueWay("from the lesser ROOT, though over a greater one", g, 8, 0, 7, 8);
    }

    private static void atTheFirstThatDiffers() {
        check.sentence(16, "(at the first that differs)");
        CallGraphs g = shared(10);
        call(g, 0, 4, 5);
        call(g, 4, 8);
        call(g, 5, 2);
        call(g, 8, 9);
        call(g, 2, 9);
        g.root(0, true);
        dueWay("4 before 5, though 2 is before 8", g, 9, 0, 4, 8, 9);
        call(g, 4, 3, 6);
        call(g, 3, 7);
        call(g, 6, 9);
        dueWay("6 before 8, and 3 does not come there", g, 9, 0, 4, 6, 9);
    }

    private static void wayToARoot() {
        check.sentence(16, "THE WAY to a REACHED member (a ROOT is its own)");
        CallGraphs g = shared(3);
        call(g, 0, 1);
        call(g, 1, 1);
        g.root(0, true);
        g.root(1, true);
        dueWay("a ROOT that is called", g, 1, 1);
        dueWay("a ROOT", g, 0, 0);
        g.root(1, false);
        dueWay("not any more", g, 1, 0, 1);
    }

    private static void longestWay() {
        check.sentence(16, "Its i-th member (of 48)");
        CallGraphs g = shared(48);
        for (int m = 0; m < 47; m++) call(g, m + 1, m);
        g.root(47, true);
        for (int i = 0; i < 48; i++) check.due("way " + i, g.way(0, i), 47 - i);
        check.due("way 48", g.way(0, 48), NONE);
        call(g, 47, 0);
        dueWay("a short one came", g, 0, 47, 0);
    }

    private static void wayNone() {
        check.sentence(16, "NONE");
        CallGraphs g = shared(3);
        call(g, 0, 1);
        g.root(0, true);
        int[] wrong = {-1, 2, 47, 48, 64, LEAST, GREATEST};
        for (int i : wrong) check.due("way(1, " + i + ")", g.way(1, i), NONE);
        check.due("way(0, 1)", g.way(0, 1), NONE);
    }

    private static void wayOfOneNotReached() {
        check.sentence(16, "THE WAY to a REACHED member (else NONE)");
        CallGraphs g = shared(3);
        call(g, 0, 1);
        call(g, 1, 2);
        int[] all = {-1, 0, 1, 2, LEAST, GREATEST};
        for (int m = 0; m < 3; m++) {
            for (int i : all) check.due("no ROOT: way(" + m + ", " + i + ")", g.way(m, i), NONE);
        }
        g.root(1, true);
        for (int i : all) check.due("not REACHED: way(0, " + i + ")", g.way(0, i), NONE);
        dueWay("REACHED", g, 2, 1, 2);
    }

    private static void wayUnknown() {
        check.sentence(16, "UNKNOWN");
        CallGraphs g = shared(2);
        int[] wrong = {-1, 2, LEAST, GREATEST};
        for (int m : wrong) {
            check.due("way(" + m + ", 0)", g.way(m, 0), UNKNOWN);
            check.due("way(" + m + ", -1)", g.way(m, -1), UNKNOWN);
        }
        check.due("the last one", g.way(1, 0), NONE);
    }
}
