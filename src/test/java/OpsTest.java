/** Promises 5 (op) and 6 (root), sentence by sentence. */
public final class OpsTest implements Words {
    private static final int[] WRONG_NAMES = {-1, 10, LEAST, GREATEST};
    private static final int[] WRONG_BAGS = {-1, 4, LEAST, GREATEST};
    private static final int[] ODD = {-1, 99, LEAST, GREATEST};
    private static final Check check = new Check("OpsTest");

    public static void main(String[] args) {
        opNumbers();
        opUnknownMember();
        opUnknownType();
        opUnknownHandle();
        opKind();
        newOfAClass();
        upToTheNextAbove();
        names();
        bags();
        handles();
        notLookedAt();
        bareMember();
        roomOfAMember();
        roomInAll();
        rootIsNew();
        rootOfEverySort();
        rootUnknown();
        rootOutside();
        check.end();
    }

    /**
     * Types: 0 and 1 faces (1 UNDER 0), 2 an abstract class with face 1, 3 a class of 2 with face 1, 4 a class.
     * Members: 0 BARE of 0, 1 PLAIN, 2 STATIC, 3 PRIVATE, 4 START of 3, 5 PLAIN of 1.
     */
    private static CallGraphs some() {
        CallGraphs g = new CallGraphs();
        g.type(FACE, NONE);
        g.type(FACE, NONE);
        g.type(ABSTRACT, NONE);
        g.type(CLASS, 2);
        g.type(CLASS, NONE);
        g.face(1, 0);
        g.face(2, 1);
        g.face(3, 1);
        g.member(0, 0, BARE);
        g.member(3, 0, PLAIN);
        g.member(3, 1, SHARED);
        g.member(3, 2, PRIVATE);
        g.member(3, 0, START);
        g.member(1, 3, PLAIN);
        return g;
    }

    private static void opNumbers() {
        check.sentence(5, "An OP comes behind those of a member: its number in it.");
        CallGraphs g = some();
        int[][] ops = {{NEW, 3, 0}, {CALL, 0, 9}, {UP, 2, 0}, {STATIC, 0, 0}, {THREAD, 0, 0}, {PUT, 0, 1}, {OUT, 3, 0}, {ANY, 0, 9}};
        for (int i = 0; i < ops.length; i++) check.due("OP " + i + " of 1", g.op(1, ops[i][0], ops[i][1], ops[i][2]), i);
        for (int m = 2; m < 6; m++) check.due("the first of member " + m, g.op(m, OUT, 0, 0), 0);
        check.due("the second of 5", g.op(5, OUT, 0, 0), 1);
        check.due("the ninth of 1", g.op(1, OUT, 0, 0), 8);
        check.due("count(2)", g.count(2), 14);
    }

    private static void opUnknownMember() {
        check.sentence(5, "UNKNOWN (member");
        CallGraphs g = some();
        int[] wrong = {-1, 6, LEAST, GREATEST};
        for (int m : wrong) {
            for (int kind = NEW; kind <= ANY; kind++) check.due("op(" + m + ", " + kind + ", 3, 1)", g.op(m, kind, 3, 1), UNKNOWN);
        }
        check.due("count(2)", g.count(2), 0);
        check.due("the last one that is there", g.op(5, NEW, 3, 0), 0);
    }

    private static void opUnknownType() {
        check.sentence(5, "a, where it is a type");
        CallGraphs g = some();
        int[] wrong = {-1, 5, LEAST, GREATEST};
        for (int kind = NEW; kind <= THREAD; kind++) {
            for (int a : wrong) check.due("op(1, " + kind + ", " + a + ", 0)", g.op(1, kind, a, 0), UNKNOWN);
        }
        check.due("count(2)", g.count(2), 0);
        check.due("NEW of the last one", g.op(1, NEW, 4, 0), 0);
        check.due("CALL of the last one", g.op(1, CALL, 4, 0), 1);
        check.due("STATIC of the last one", g.op(1, STATIC, 4, 0), 2);
        check.due("THREAD of the last one", g.op(1, THREAD, 4, 0), 3);
    }

    private static void opUnknownHandle() {
        check.sentence(5, "b, where it is a member");
        CallGraphs g = some();
        int[] wrong = {-1, 6, LEAST, GREATEST};
        for (int b : wrong) check.due("op(1, PUT, 0, " + b + ")", g.op(1, PUT, 0, b), UNKNOWN);
        check.due("count(2)", g.count(2), 0);
        check.due("the last one", g.op(1, PUT, 0, 5), 0);
    }

    private static void opKind() {
        check.sentence(5, "OUTSIDE (kind");
        CallGraphs g = some();
        int[] wrong = {-1, 8, LEAST, GREATEST};
        for (int kind : wrong) {
            check.due("op(1, " + kind + ", 3, 1)", g.op(1, kind, 3, 1), OUTSIDE);
            for (int odd : ODD) check.due("op(1, " + kind + ", " + odd + ", " + odd + ")", g.op(1, kind, odd, odd), OUTSIDE);
        }
        check.due("count(2)", g.count(2), 0);
        check.due("the last kind", g.op(1, ANY, 0, 0), 0);
    }

    private static void newOfAClass() {
        check.sentence(5, "no CLASS of NEW");
        CallGraphs g = some();
        check.due("a FACE", g.op(1, NEW, 0, 0), OUTSIDE);
        check.due("an ABSTRACT CLASS", g.op(1, NEW, 2, 0), OUTSIDE);
        check.due("count(2)", g.count(2), 0);
        check.due("a CLASS", g.op(1, NEW, 3, 0), 0);
    }

    private static void upToTheNextAbove() {
        check.sentence(5, "not as of UP (a is the SUPER of the member's type, or one of its FACES)");
        CallGraphs g = some();
        int[] due = {OUTSIDE, 0, 1, OUTSIDE, OUTSIDE};
        String[] what = {"a face ABOVE that is none of its own", "its face", "its SUPER", "its own type", "another class"};
        for (int a = 0; a < 5; a++) check.due("of 1: " + what[a], g.op(1, UP, a, 0), due[a]);
        check.due("of a face: its face", g.op(5, UP, 0, 0), 0);
        check.due("of a face: itself", g.op(5, UP, 1, 0), OUTSIDE);
        check.due("of a face: a class UNDER it", g.op(5, UP, 2, 0), OUTSIDE);
        g.face(3, 0);
        check.due("a face that came late", g.op(1, UP, 0, 0), 2);
        g.type(CLASS, 3);
        int low = g.member(5, 0, PLAIN);
        check.due("of a class below: its SUPER", g.op(low, UP, 3, 0), 0);
        check.due("of a class below: the SUPER of that", g.op(low, UP, 2, 0), OUTSIDE);
        check.due("of a class below: a face of its SUPER", g.op(low, UP, 1, 0), OUTSIDE);
        int top = g.member(4, 0, PLAIN);
        for (int a = 0; a < 6; a++) check.due("of one without any: " + a, g.op(top, UP, a, 0), OUTSIDE);
    }

    private static void names() {
        check.sentence(5, "a NAME");
        CallGraphs g = some();
        for (int b : WRONG_NAMES) {
            check.due("CALL of NAME " + b, g.op(1, CALL, 3, b), OUTSIDE);
            check.due("UP of NAME " + b, g.op(1, UP, 2, b), OUTSIDE);
            check.due("STATIC of NAME " + b, g.op(1, STATIC, 3, b), OUTSIDE);
            check.due("ANY of NAME " + b, g.op(1, ANY, 0, b), OUTSIDE);
        }
        check.due("count(2)", g.count(2), 0);
        int[] right = {0, 9};
        for (int b : right) {
            int before = g.count(2);
            check.due("CALL of NAME " + b, g.op(1, CALL, 3, b), before);
            check.due("UP of NAME " + b, g.op(1, UP, 2, b), before + 1);
            check.due("STATIC of NAME " + b, g.op(1, STATIC, 3, b), before + 2);
            check.due("ANY of NAME " + b, g.op(1, ANY, 0, b), before + 3);
        }
    }

    private static void bags() {
        check.sentence(5, "a BAG (0 .. 3)");
        CallGraphs g = some();
        for (int a : WRONG_BAGS) {
            check.due("PUT into BAG " + a, g.op(1, PUT, a, 1), OUTSIDE);
            check.due("OUT of BAG " + a, g.op(1, OUT, a, 0), OUTSIDE);
        }
        check.due("count(2)", g.count(2), 0);
        for (int a = 0; a < 4; a++) {
            check.due("PUT into BAG " + a, g.op(1, PUT, a, 1), 2 * a);
            check.due("OUT of BAG " + a, g.op(1, OUT, a, 0), 2 * a + 1);
        }
    }

    private static void handles() {
        check.sentence(5, "a member of another sort (PUT: PLAIN, STATIC or PRIVATE)");
        CallGraphs g = some();
        check.due("BARE", g.op(1, PUT, 0, 0), OUTSIDE);
        check.due("START", g.op(1, PUT, 0, 4), OUTSIDE);
        check.due("count(2)", g.count(2), 0);
        check.due("PLAIN", g.op(1, PUT, 0, 1), 0);
        check.due("STATIC", g.op(1, PUT, 0, 2), 1);
        check.due("PRIVATE", g.op(1, PUT, 0, 3), 2);
        check.due("PLAIN of a face", g.op(1, PUT, 0, 5), 3);
        check.due("it comes into the BAG again", g.op(1, PUT, 0, 5), 4);
    }

    private static void notLookedAt() {
        check.sentence(5, "what an OP does not have is not looked at");
        CallGraphs g = some();
        for (int i = 0; i < ODD.length; i++) {
            check.due("NEW 3 " + ODD[i], g.op(1, NEW, 3, ODD[i]), 4 * i);
            check.due("THREAD 3 " + ODD[i], g.op(1, THREAD, 3, ODD[i]), 4 * i + 1);
            check.due("OUT 3 " + ODD[i], g.op(1, OUT, 3, ODD[i]), 4 * i + 2);
            check.due("ANY " + ODD[i] + " 0", g.op(1, ANY, ODD[i], 0), 4 * i + 3);
        }
        g.root(1, true);
        check.due("and the GRAPH does not look at it", g.count(4), 2);
        check.due("nor does a RUN", g.holds(3), true);
    }

    private static void bareMember() {
        check.sentence(5, "STATE (the member is BARE)");
        CallGraphs g = some();
        int[][] ops = {{NEW, 3, 0}, {CALL, 0, 0}, {STATIC, 0, 0}, {THREAD, 0, 0}, {PUT, 0, 1}, {OUT, 0, 0}, {ANY, 0, 0}};
        for (int[] o : ops) check.due("kind " + o[0], g.op(0, o[0], o[1], o[2]), STATE);
        int bare = g.member(2, 0, BARE);
        check.due("UP, of an ABSTRACT CLASS's", g.op(bare, UP, 1, 0), STATE);
        check.due("count(2)", g.count(2), 0);
        check.due("no OP came", g.callee(0, 0, 0), UNKNOWN);
        for (int m = 1; m < 6; m++) check.due("member " + m + " is not BARE", g.op(m, OUT, 0, 0), 0);
    }

    private static void roomOfAMember() {
        check.sentence(5, "ROOM, since OPS are 24 of a member at most");
        CallGraphs g = some();
        for (int i = 0; i < 24; i++) check.due("OP " + i, g.op(1, OUT, 0, 0), i);
        check.due("a 25th", g.op(1, OUT, 0, 0), ROOM);
        check.due("a 25th of another kind", g.op(1, NEW, 3, 0), ROOM);
        check.due("count(2)", g.count(2), 24);
        check.due("OP 23", g.callee(1, 23, 0), NONE);
        check.due("no OP 24", g.callee(1, 24, 0), UNKNOWN);
        check.due("of another one", g.op(2, OUT, 0, 0), 0);
    }

    private static void roomInAll() {
        check.sentence(5, "ROOM, since OPS are 160 at most in all");
        CallGraphs g = new CallGraphs();
        g.type(FACE, NONE);
        for (int m = 0; m < 8; m++) g.member(0, m, PLAIN);
        for (int i = 0; i < 160; i++) check.due("OP " + i, g.op(i / 23, OUT, 0, 0), i % 23);
        for (int m = 0; m < 8; m++) check.due("a 161st, of member " + m, g.op(m, OUT, 0, 0), ROOM);
        check.due("count(2)", g.count(2), 160);
        check.due("the 160th", g.callee(6, 21, 0), NONE);
        check.due("no OP behind it", g.callee(6, 22, 0), UNKNOWN);
        check.due("none of the last member", g.callee(7, 0, 0), UNKNOWN);

        CallGraphs both = new CallGraphs();
        both.type(FACE, NONE);
        for (int m = 0; m < 7; m++) both.member(0, m, PLAIN);
        for (int i = 0; i < 160; i++) both.op(i / 24, OUT, 0, 0);
        check.due("no room in the member nor in all", both.op(0, OUT, 0, 0), ROOM);
        check.due("room in the member alone", both.op(6, OUT, 0, 0), ROOM);
    }

    private static void rootIsNew() {
        check.sentence(6, "A member is a ROOT, or not: 1 if that is new, else 0.");
        CallGraphs g = some();
        check.due("not, and was not", g.root(1, false), 0);
        check.due("none", g.count(3), 0);
        check.due("is, and was not", g.root(1, true), 1);
        check.due("is, and was", g.root(1, true), 0);
        check.due("one", g.count(3), 1);
        check.due("another one", g.root(5, true), 1);
        check.due("two", g.count(3), 2);
        check.due("not, and was", g.root(1, false), 1);
        check.due("not, and was not again", g.root(1, false), 0);
        check.due("one again", g.count(3), 1);
        check.due("is again", g.root(1, true), 1);
        check.due("two again", g.count(3), 2);
    }

    private static void rootOfEverySort() {
        check.sentence(6, "A member is a ROOT (PLAIN, STATIC, PRIVATE, of any type, 48 at once)");
        CallGraphs g = new CallGraphs();
        for (int t = 0; t < 5; t++) g.type(t % 3, NONE);
        int[] sorts = {PLAIN, SHARED, PRIVATE};
        for (int m = 0; m < 48; m++) {
            g.member(m / 10, m % 10, sorts[m % 3]);
            check.due("root(" + m + ", true)", g.root(m, true), 1);
        }
        check.due("count(3)", g.count(3), 48);
        check.due("count(4)", g.count(4), 48);
        check.due("the last one not", g.root(47, false), 1);
        check.due("count(3) then", g.count(3), 47);
    }

    private static void rootUnknown() {
        check.sentence(6, "UNKNOWN");
        CallGraphs g = some();
        int[] wrong = {-1, 6, LEAST, GREATEST};
        for (int m : wrong) {
            check.due("root(" + m + ", true)", g.root(m, true), UNKNOWN);
            check.due("root(" + m + ", false)", g.root(m, false), UNKNOWN);
        }
        check.due("count(3)", g.count(3), 0);
        check.due("the last one", g.root(5, true), 1);
    }

    private static void rootOutside() {
        check.sentence(6, "OUTSIDE (BARE, START)");
        CallGraphs g = some();
        int[] wrong = {0, 4};
        for (int m : wrong) {
            check.due("root(" + m + ", true)", g.root(m, true), OUTSIDE);
            check.due("root(" + m + ", false)", g.root(m, false), OUTSIDE);
        }
        check.due("count(3)", g.count(3), 0);
        check.due("count(4)", g.count(4), 0);
    }
}
