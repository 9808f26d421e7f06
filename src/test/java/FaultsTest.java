/** Promise 14 (faults), sentence by sentence, with what is said of FAULTS. */
public final class FaultsTest implements Words {
    private static final Check check = new Check("FaultsTest");

    public static void main(String[] args) {
        missingAndUnlikeOnce();
        ifThereIsAMadeClass();
        bareAndClashForEach();
        faultsBesideCallees();
        threadsToo();
        faultsOfUp();
        faultsOfStatic();
        faultsOfOtherOps();
        allFaults();
        notReached();
        unknown();
        outside();
        check.end();
    }

    private static void dueFaults(String of, CallGraphs g, int member, int op, int... due) {
        for (int i = 0; i < 4; i++) check.due(of + ": faults of kind " + (-2 - i), g.faults(member, op, -2 - i), due[i]);
    }

    /**
     * Faces 0 and 1; an abstract class 2 with both; classes 3, 4, 5 of 2, class 6 alone.
     * NAME 0 clashes, NAME 1 is BARE, NAME 2 of 2 is STATIC; nothing has NAMES 3 and 9. Member 4 of 6 is a ROOT.
     */
    private static CallGraphs some() {
        CallGraphs g = new CallGraphs();
        g.type(FACE, NONE);
        g.type(FACE, NONE);
        g.type(ABSTRACT, NONE);
        g.face(2, 0);
        g.face(2, 1);
        for (int t = 3; t < 6; t++) g.type(CLASS, 2);
        g.type(CLASS, NONE);
        g.member(0, 0, PLAIN);
        g.member(1, 0, PLAIN);
        g.member(1, 1, BARE);
        g.member(2, 2, SHARED);
        g.member(6, 5, SHARED);
        g.root(4, true);
        return g;
    }

    private static void missingAndUnlikeOnce() {
        check.sentence(0, "of CALL, THREAD -2 and -3 once");
        for (int made = 1; made <= 3; made++) {
            CallGraphs g = some();
            g.op(4, CALL, 2, 3);
            g.op(4, CALL, 2, 2);
            for (int c = 3; c < 3 + made; c++) g.op(4, NEW, c, 0);
            dueFaults("MISSING, of " + made, g, 4, 0, 1, 0, 0, 0);
            dueFaults("UNLIKE, of " + made, g, 4, 1, 0, 1, 0, 0);
            check.due("in all, of " + made, g.count(8), 2);
        }
    }

    private static void ifThereIsAMadeClass() {
        check.sentence(0, "if there is a MADE class UNDER a");
        CallGraphs g = some();
        for (int name = 0; name < 4; name++) g.op(4, CALL, 2, name);
        for (int op = 0; op < 4; op++) dueFaults("none is MADE, NAME " + op, g, 4, op, 0, 0, 0, 0);
        g.op(4, NEW, 6, 0);
        for (int op = 0; op < 4; op++) dueFaults("one is MADE that is not UNDER it, NAME " + op, g, 4, op, 0, 0, 0, 0);
        check.due("in all", g.count(8), 0);
        g.op(4, NEW, 5, 0);
        dueFaults("one is MADE, CLASH", g, 4, 0, 0, 0, 0, 1);
        dueFaults("one is MADE, BARE", g, 4, 1, 0, 0, 1, 0);
        dueFaults("one is MADE, UNLIKE", g, 4, 2, 0, 1, 0, 0);
        dueFaults("one is MADE, MISSING", g, 4, 3, 1, 0, 0, 0);
        g.op(4, CALL, 5, 3);
        dueFaults("a itself is MADE", g, 4, 6, 1, 0, 0, 0);
        CallGraphs first = new CallGraphs();
        first.type(CLASS, NONE);
        first.member(0, 5, SHARED);
        first.root(0, true);
        first.op(0, CALL, 0, 5);
        first.op(0, CALL, 0, 3);
        first.op(0, NEW, 0, 0);
        dueFaults("the first type is MADE, UNLIKE", first, 0, 0, 0, 1, 0, 0);
        dueFaults("the first type is MADE, MISSING", first, 0, 1, 1, 0, 0, 0);
    }

    private static void bareAndClashForEach() {
        check.sentence(0, "-4 and -5 for each such class for which it is");
        for (int made = 0; made <= 3; made++) {
            CallGraphs g = some();
            g.op(4, CALL, 1, 0);
            g.op(4, CALL, 1, 1);
            for (int c = 3; c < 3 + made; c++) g.op(4, NEW, c, 0);
            dueFaults("CLASH, of " + made, g, 4, 0, 0, 0, 0, made);
            dueFaults("BARE, of " + made, g, 4, 1, 0, 0, made, 0);
            check.due("in all, of " + made, g.count(8), 2 * made);
        }
    }

    private static void faultsBesideCallees() {
        check.sentence(0, "FAULTS instead of a callee");
        CallGraphs g = some();
        g.member(3, 0, PLAIN);
        g.member(4, 1, PLAIN);
        for (int c = 3; c < 6; c++) g.op(4, NEW, c, 0);
        g.op(4, CALL, 0, 0);
        g.op(4, CALL, 1, 1);
        dueFaults("3 has it", g, 4, 3, 0, 0, 0, 2);
        check.due("3 has it: callee 0", g.callee(4, 3, 0), 5);
        check.due("3 has it: callee 1", g.callee(4, 3, 1), NONE);
        dueFaults("4 has it", g, 4, 4, 0, 0, 2, 0);
        check.due("4 has it: callee 0", g.callee(4, 4, 0), 6);
        check.due("4 has it: callee 1", g.callee(4, 4, 1), NONE);
    }

    private static void threadsToo() {
        check.sentence(0, "FAULTS of CALL, THREAD");
        int[] sorts = {BARE, SHARED, PLAIN};
        int[][] due = {{0, 0, 2, 0}, {0, 1, 0, 0}, {0, 0, 0, 0}};
        for (int i = 0; i < 3; i++) {
            CallGraphs g = some();
            g.op(4, THREAD, 2, 1);
            dueFaults("none is MADE", g, 4, 0, 0, 0, 0, 0);
            g.op(4, NEW, 3, 0);
            g.op(4, NEW, 4, 0);
            dueFaults("MISSING", g, 4, 0, 1, 0, 0, 0);
            g.member(2, 9, sorts[i]);
            dueFaults("NAME 9 is of sort " + sorts[i], g, 4, 0, due[i]);
        }
        CallGraphs g = some();
        g.member(0, 9, PLAIN);
        g.member(1, 9, PLAIN);
        g.op(4, THREAD, 2, 1);
        g.op(4, NEW, 3, 0);
        g.op(4, NEW, 4, 0);
        dueFaults("CLASH", g, 4, 0, 0, 0, 0, 2);
    }

    private static void faultsOfUp() {
        check.sentence(0, "of UP as they come");
        CallGraphs g = some();
        int low = g.member(3, 5, PLAIN);
        g.root(low, true);
        for (int name = 0; name < 4; name++) g.op(low, UP, 2, name);
        dueFaults("CLASH", g, low, 0, 0, 0, 0, 1);
        dueFaults("BARE", g, low, 1, 0, 0, 1, 0);
        dueFaults("UNLIKE", g, low, 2, 0, 1, 0, 0);
        dueFaults("MISSING", g, low, 3, 1, 0, 0, 0);
        for (int c = 3; c < 6; c++) g.op(low, NEW, c, 0);
        dueFaults("three are MADE", g, low, 0, 0, 0, 0, 1);
        check.due("in all", g.count(8), 4);
        g.member(2, 3, PLAIN);
        dueFaults("what was MISSING came", g, low, 3, 0, 0, 0, 0);
    }

    private static void faultsOfStatic() {
        check.sentence(0, "-3 UNLIKE: it is STATIC (in STATIC: it is not)");
        CallGraphs g = some();
        g.member(2, 6, PRIVATE);
        g.member(2, 7, PLAIN);
        int[] names = {0, 1, 6, 7};
        for (int name : names) g.op(4, STATIC, 3, name);
        for (int op = 0; op < 4; op++) dueFaults("NAME " + names[op] + " is not", g, 4, op, 0, 1, 0, 0);
        g.op(4, STATIC, 3, 2);
        g.op(4, STATIC, 3, 3);
        g.op(4, STATIC, 0, 2);
        dueFaults("NAME 2 is", g, 4, 4, 0, 0, 0, 0);
        dueFaults("MISSING", g, 4, 5, 1, 0, 0, 0);
        dueFaults("MISSING in the face", g, 4, 6, 1, 0, 0, 0);
        check.due("in all", g.count(8), 6);
    }

    private static void faultsOfOtherOps() {
        check.sentence(14, "How many FAULTS of a kind an OP has (NEW, PUT, OUT, ANY have none)");
        CallGraphs g = some();
        int[][] ops = {{NEW, 3, 9}, {PUT, 0, 0}, {OUT, 0, 9}, {OUT, 1, 9}, {ANY, 0, 0}, {ANY, 0, 9}};
        for (int[] o : ops) g.op(4, o[0], o[1], o[2]);
        for (int op = 0; op < ops.length; op++) dueFaults("kind " + ops[op][0], g, 4, op, 0, 0, 0, 0);
        check.due("in all", g.count(8), 0);
    }

    private static void allFaults() {
        check.sentence(0, "Told is how many there are");
        CallGraphs g = some();
        for (int c = 3; c < 6; c++) g.op(4, NEW, c, 0);
        for (int name = 0; name < 4; name++) g.op(4, CALL, 0, name);
        for (int name = 0; name < 4; name++) g.op(4, CALL, 2, name);
        g.op(4, CALL, 2, 3);
        int[][] due = {{0, 0, 0, 3}, {1, 0, 0, 0}, {1, 0, 0, 0}, {1, 0, 0, 0}, {0, 0, 0, 3}, {0, 0, 3, 0}, {0, 1, 0, 0},
            {1, 0, 0, 0}, {1, 0, 0, 0}};
        for (int op = 0; op < due.length; op++) dueFaults("OP " + (3 + op), g, 4, 3 + op, due[op]);
        check.due("in all", g.count(8), 15);
    }

    private static void notReached() {
        check.sentence(14, "(0 if the member is not REACHED)");
        CallGraphs g = some();
        int low = g.member(3, 5, PLAIN);
        g.op(4, NEW, 3, 0);
        g.op(low, CALL, 2, 3);
        g.op(low, UP, 2, 1);
        g.op(low, STATIC, 2, 3);
        for (int op = 0; op < 3; op++) dueFaults("OP " + op, g, low, op, 0, 0, 0, 0);
        check.due("in all", g.count(8), 0);
        g.root(low, true);
        dueFaults("REACHED: CALL", g, low, 0, 1, 0, 0, 0);
        dueFaults("REACHED: UP", g, low, 1, 0, 0, 1, 0);
        dueFaults("REACHED: STATIC", g, low, 2, 1, 0, 0, 0);
        check.due("REACHED: in all", g.count(8), 3);
        g.root(low, false);
        dueFaults("not any more", g, low, 1, 0, 0, 0, 0);
    }

    private static void unknown() {
        check.sentence(14, "UNKNOWN");
        CallGraphs g = some();
        g.op(4, CALL, 2, 3);
        int[] members = {-1, 5, LEAST, GREATEST};
        int[] ops = {-1, 1, 24, LEAST, GREATEST};
        for (int m : members) check.due("faults(" + m + ", 0, -2)", g.faults(m, 0, -2), UNKNOWN);
        for (int op : ops) check.due("faults(4, " + op + ", -2)", g.faults(4, op, -2), UNKNOWN);
        check.due("one without OPS", g.faults(0, 0, -2), UNKNOWN);
        check.due("both are there", g.faults(4, 0, -2), 0);
    }

    private static void outside() {
        check.sentence(14, "OUTSIDE (-2 .. -5)");
        CallGraphs g = some();
        g.op(4, CALL, 2, 3);
        int[] wrong = {-1, -6, 0, 2, LEAST, GREATEST};
        for (int reached = 0; reached < 2; reached++) {
            g.root(4, reached == 1);
            for (int kind : wrong) check.due("faults(4, 0, " + kind + ")", g.faults(4, 0, kind), OUTSIDE);
            for (int kind = -5; kind <= -2; kind++) check.due("faults(4, 0, " + kind + ")", g.faults(4, 0, kind), 0);
        }
    }
}
