/** THE GRAPH, and promises 7 (count), 12 (made) and 13 (callee), sentence by sentence. */
public final class GraphTest implements Words {
    private static final Check check = new Check("GraphTest");

    public static void main(String[] args) {
        theLeast();
        rootsAreReached();
        newMakesAndBegins();
        callsOfMadeClasses();
        callsOfWhatIsFound();
        threads();
        ups();
        statics();
        staticsBegin();
        puts();
        outs();
        anys();
        calleesAreReached();
        begunWithAClass();
        facesBegunWithAClass();
        nothingIsBegunWithAFace();
        startsAreReached();
        startsAreCallees();
        changesAreSeen();

        countsOfTold();
        countsOfTheGraph();
        countOfPairs();
        countsAtTheirMost();
        countOutside();
        madeOfAType();
        madeUnknown();
        madeOutside();
        calleesByNumbers();
        calleeNone();
        calleeOfOneNotReached();
        calleeUnknown();
        check.end();
    }

    private static CallGraphs types(int... kinds) {
        CallGraphs g = new CallGraphs();
        for (int kind : kinds) g.type(kind, NONE);
        return g;
    }

    /** A class with n STATIC members of NAMES 0 .. n - 1. */
    private static CallGraphs shared(int n) {
        CallGraphs g = types(CLASS);
        for (int name = 0; name < n; name++) g.member(0, name, SHARED);
        return g;
    }

    private static void dueCallees(String of, CallGraphs g, int member, int op, int... due) {
        for (int i = 0; i < due.length; i++) check.due(of + ": callee " + i, g.callee(member, op, i), due[i]);
        check.due(of + ": no more callees", g.callee(member, op, due.length), NONE);
    }

    private static void dueReached(String of, CallGraphs g, int... due) {
        for (int m = 0; m < due.length; m++) check.due(of + ": is " + m + " REACHED", g.about(m, 0), due[m]);
    }

    private static void dueBegun(String of, CallGraphs g, int... due) {
        int n = 0;
        for (int t = 0; t < due.length; t++) {
            check.due(of + ": is " + t + " BEGUN", g.made(t, 1), due[t]);
            n += due[t];
        }
        check.due(of + ": how many are BEGUN", g.count(6), n);
    }

    private static void theLeast() {
        check.sentence(0, "the least such that all this holds");
        CallGraphs g = shared(5);
        g.type(CLASS, 0);
        g.op(0, STATIC, 0, 1);
        g.op(1, STATIC, 0, 0);
        g.op(1, NEW, 1, 0);
        g.op(1, PUT, 0, 4);
        g.op(2, OUT, 0, 0);
        g.op(2, CALL, 0, 3);
        for (int what = 4; what < 10; what++) check.due("without ROOTS: count(" + what + ")", g.count(what), 0);
        g.root(2, true);
        dueReached("0 and 1 call one another, and no one else them", g, 0, 0, 1, 0, 0);
        check.due("what one makes that is not REACHED", g.count(5), 0);
        check.due("what one begins that is not REACHED", g.count(6), 0);
        dueCallees("what one puts that is not REACHED", g, 2, 0);
        g.root(1, true);
        dueReached("now one of them is a ROOT", g, 1, 1, 1, 0, 1);
    }

    private static void rootsAreReached() {
        check.sentence(0, "ROOTS are REACHED");
        CallGraphs g = types(FACE, CLASS);
        int[] sorts = {PLAIN, SHARED, PRIVATE};
        for (int m = 0; m < 3; m++) g.member(0, m, sorts[m]);
        for (int m = 0; m < 3; m++) g.member(1, m, sorts[m]);
        dueReached("none is a ROOT", g, 0, 0, 0, 0, 0, 0);
        for (int m = 0; m < 6; m++) {
            g.root(m, true);
            check.due("ROOT " + m, g.about(m, 0), 1);
        }
        check.due("a ROOT makes nothing", g.count(5), 0);
        dueBegun("a ROOT begins nothing", g, 0, 0);
        g.root(3, false);
        dueReached("3 is none now", g, 1, 1, 1, 0, 1, 1);
    }

    private static void newMakesAndBegins() {
        check.sentence(0, "NEW a: a is MADE, and BEGUN");
        CallGraphs g = types(CLASS, CLASS);
        g.member(0, 0, SHARED);
        g.root(0, true);
        g.op(0, NEW, 1, 0);
        check.due("MADE", g.made(1, 0), 1);
        check.due("the other one is not", g.made(0, 0), 0);
        dueBegun("NEW 1", g, 0, 1);
        g.op(0, NEW, 1, 0);
        check.due("again: how many", g.count(5), 1);
        g.type(CLASS, 1);
        g.op(0, NEW, 2, 0);
        check.due("with a SUPER", g.made(2, 0), 1);
        CallGraphs below = types(CLASS);
        below.type(CLASS, 0);
        below.member(0, 0, SHARED);
        below.root(0, true);
        below.op(0, NEW, 1, 0);
        check.due("the SUPER is not MADE with it", below.made(0, 0), 0);
    }

    /** Types: 0 abstract, 1, 2 of 0, 3 of 2. NAME 0 of 0 (member 0), 1 (1) and 3 (2); member 3 is the ROOT. */
    private static CallGraphs family() {
        CallGraphs g = types(ABSTRACT);
        g.type(CLASS, 0);
        g.type(CLASS, 0);
        g.type(CLASS, 2);
        g.member(0, 0, PLAIN);
        g.member(1, 0, PLAIN);
        g.member(3, 0, PLAIN);
        g.member(0, 5, SHARED);
        g.root(3, true);
        return g;
    }

    private static void callsOfMadeClasses() {
        check.sentence(0, "CALL, THREAD: for each MADE class c that is UNDER a: the member that is CHOSEN for c");
        CallGraphs g = family();
        g.op(3, CALL, 0, 0);
        g.op(3, CALL, 2, 0);
        g.op(3, CALL, 3, 0);
        dueCallees("none is MADE", g, 3, 0);
        g.op(3, NEW, 1, 0);
        dueCallees("1 is MADE, behind the CALL", g, 3, 0, 1);
        dueCallees("1 is not UNDER 2", g, 3, 1);
        g.op(1, NEW, 2, 0);
        dueCallees("2 is MADE, by a CALLEE", g, 3, 0, 0, 1);
        dueCallees("2 is UNDER itself", g, 3, 1, 0);
        dueCallees("2 is not UNDER 3", g, 3, 2);
        g.op(0, NEW, 3, 0);
        dueCallees("3 is MADE", g, 3, 0, 0, 1, 2);
        dueCallees("3 is UNDER 2", g, 3, 1, 0, 2);
        dueCallees("3 is UNDER itself", g, 3, 2, 2);
        CallGraphs same = types(FACE, CLASS, CLASS);
        same.face(1, 0);
        same.face(2, 0);
        same.member(0, 0, PLAIN);
        same.member(1, 5, SHARED);
        same.root(1, true);
        same.op(1, NEW, 1, 0);
        same.op(1, NEW, 2, 0);
        same.op(1, CALL, 0, 0);
        dueCallees("of a face; two classes, one member", same, 1, 2, 0);
        CallGraphs alone = types(CLASS);
        alone.member(0, 0, PLAIN);
        alone.member(0, 5, SHARED);
        alone.root(1, true);
        alone.op(1, CALL, 0, 0);
        alone.op(1, NEW, 0, 0);
        dueCallees("the first type, MADE behind the CALL", alone, 1, 0, 0);
    }

    private static void callsOfWhatIsFound() {
        check.sentence(0, "of what is FOUND of the NAME in a");
        CallGraphs g = types(CLASS);
        g.type(CLASS, 0);
        g.member(0, 0, PRIVATE);
        g.member(1, 0, PLAIN);
        g.member(1, 1, PLAIN);
        g.member(0, 2, SHARED);
        g.member(1, 2, PLAIN);
        g.root(3, true);
        g.op(3, NEW, 1, 0);
        g.op(3, CALL, 0, 0);
        g.op(3, CALL, 1, 0);
        g.op(3, CALL, 0, 1);
        g.op(3, CALL, 0, 2);
        g.op(3, CALL, 1, 2);
        dueCallees("FOUND in 0 is PRIVATE", g, 3, 1, 0);
        dueCallees("FOUND in 1 is PLAIN", g, 3, 2, 1);
        dueCallees("nothing is FOUND in 0, though 1 has it", g, 3, 3);
        dueCallees("FOUND in 0 is STATIC, though 1 has it PLAIN", g, 3, 4);
        dueCallees("FOUND in 1 is PLAIN, though 0 has it STATIC", g, 3, 5, 4);
    }

    private static void threads() {
        check.sentence(0, "THREAD a: as CALL a 9");
        for (int b = -1; b < 11; b++) {
            CallGraphs g = family();
            for (int name = 1; name < 10; name++) {
                if (name != 5) g.member(0, name, PLAIN);
            }
            int nine = g.found(0, 9);
            g.op(3, THREAD, 0, b);
            dueCallees("none is MADE, b = " + b, g, 3, 0);
            g.op(3, NEW, 3, 0);
            dueCallees("b = " + b, g, 3, 0, nine);
            int own = g.member(3, 9, PLAIN);
            dueCallees("as the class has it, b = " + b, g, 3, 0, own);
        }
    }

    private static void ups() {
        check.sentence(0, "UP: that which is CHOSEN for a of what is FOUND in a");
        CallGraphs g = family();
        g.root(3, false);
        g.root(2, true);
        g.op(2, UP, 2, 0);
        dueCallees("as the SUPER has it", g, 2, 0, 0);
        int near = g.member(2, 0, PLAIN);
        dueCallees("the nearest", g, 2, 0, near);
        check.due("nothing is MADE", g.count(5), 0);
        dueBegun("nothing is BEGUN", g, 0, 0, 0, 0);
        CallGraphs faces = types(FACE, FACE, CLASS);
        faces.face(1, 0);
        faces.face(2, 1);
        faces.member(0, 0, PLAIN);
        faces.member(2, 0, PLAIN);
        faces.member(1, 1, PRIVATE);
        faces.root(1, true);
        faces.op(1, UP, 1, 0);
        faces.op(1, UP, 1, 1);
        dueCallees("as a face has it", faces, 1, 0, 0);
        dueCallees("PRIVATE of the face", faces, 1, 1, 2);
        faces.member(1, 0, BARE);
        dueCallees("BARE", faces, 1, 0);
    }

    private static void statics() {
        check.sentence(0, "STATIC: that which is FOUND in a, if it is STATIC");
        CallGraphs g = types(FACE, CLASS);
        g.type(CLASS, 1);
        g.face(2, 0);
        g.member(1, 0, SHARED);
        g.member(0, 1, SHARED);
        g.member(1, 2, PLAIN);
        g.member(1, 3, PRIVATE);
        g.member(0, 4, BARE);
        g.member(2, 5, SHARED);
        g.root(5, true);
        for (int name = 0; name < 7; name++) g.op(5, STATIC, 2, name);
        g.op(5, STATIC, 0, 1);
        dueCallees("of the SUPER", g, 5, 0, 0);
        dueCallees("of a face, from a class UNDER it", g, 5, 1);
        dueCallees("PLAIN", g, 5, 2);
        dueCallees("PRIVATE", g, 5, 3);
        dueCallees("BARE", g, 5, 4);
        dueCallees("its own", g, 5, 5, 5);
        dueCallees("nothing is FOUND", g, 5, 6);
        dueCallees("of a face, from itself", g, 5, 7, 1);
    }

    private static void staticsBegin() {
        check.sentence(0, "its type is BEGUN (the type of the member that is FOUND)");
        CallGraphs g = types(FACE, CLASS);
        g.type(CLASS, 1);
        g.member(1, 0, SHARED);
        g.member(2, 1, PLAIN);
        g.member(0, 2, SHARED);
        g.root(1, true);
        g.op(1, STATIC, 2, 1);
        dueBegun("it is not STATIC", g, 0, 0, 0);
        g.op(1, STATIC, 2, 9);
        dueBegun("nothing is FOUND", g, 0, 0, 0);
        g.op(1, STATIC, 2, 0);
        dueBegun("the SUPER's", g, 0, 1, 0);
        g.op(1, STATIC, 0, 2);
        dueBegun("a face's", g, 1, 1, 0);
        check.due("none is MADE", g.count(5), 0);
    }

    private static void puts() {
        check.sentence(0, "PUT: the member is in the BAG");
        CallGraphs g = shared(4);
        g.member(0, 4, PLAIN);
        g.member(0, 5, PRIVATE);
        g.root(0, true);
        g.op(0, PUT, 1, 3);
        g.op(0, PUT, 1, 4);
        g.op(0, PUT, 1, 5);
        g.op(0, PUT, 1, 3);
        for (int op = 0; op < 4; op++) dueCallees("PUT calls nothing", g, 0, op);
        dueReached("nor is it REACHED by that", g, 1, 0, 0, 0, 0, 0);
        g.op(0, OUT, 1, 0);
        dueCallees("all three are there", g, 0, 4, 3, 4, 5);
        dueBegun("a handle begins nothing", g, 0);
        g.root(0, false);
        g.root(1, true);
        g.op(1, OUT, 1, 0);
        dueCallees("put by one that is none now", g, 1, 0);
    }

    private static void outs() {
        check.sentence(0, "OUT: each that is in the BAG is a CALLEE");
        CallGraphs g = shared(9);
        g.root(8, true);
        for (int bag = 0; bag < 4; bag++) g.op(8, OUT, bag, 0);
        for (int bag = 0; bag < 4; bag++) dueCallees("BAG " + bag + " is empty", g, 8, bag);
        for (int bag = 0; bag < 4; bag++) g.op(8, PUT, bag, bag);
        for (int bag = 0; bag < 4; bag++) dueCallees("BAG " + bag + ", put behind the OUT", g, 8, bag, bag);
        for (int bag = 0; bag < 4; bag++) g.op(bag, PUT, bag, bag + 4);
        for (int bag = 0; bag < 4; bag++) dueCallees("BAG " + bag + ", put by what is taken OUT", g, 8, bag, bag, bag + 4);

        for (int bag = 0; bag < 4; bag++) {
            CallGraphs one = shared(2);
            one.root(0, true);
            one.op(0, OUT, bag, 0);
            one.op(0, PUT, bag, 1);
            dueCallees("BAG " + bag + " alone, put behind the OUT", one, 0, 0, 1);
        }

        CallGraphs full = types(CLASS, CLASS, CLASS, CLASS, CLASS);
        for (int m = 0; m < 48; m++) full.member(m / 10, m % 10, SHARED);
        for (int m = 0; m < 48; m++) full.op(m / 12, PUT, 3, m);
        full.op(4, OUT, 3, 0);
        for (int m = 0; m < 5; m++) full.root(m, true);
        for (int m = 0; m < 48; m++) check.due("all 48 in a BAG: callee " + m, full.callee(4, 0, m), m);
        check.due("no 49th", full.callee(4, 0, 48), NONE);
    }

    private static void anys() {
        check.sentence(0, "ANY: each that it tells (some member of NAME b that is PLAIN, STATIC or PRIVATE, of whatever type)");
        CallGraphs g = types(ABSTRACT, ABSTRACT, FACE, CLASS);
        g.member(0, 0, BARE);
        g.member(1, 0, PRIVATE);
        g.member(2, 0, SHARED);
        g.member(3, 0, PLAIN);
        g.member(3, 0, START);
        g.member(3, 1, PLAIN);
        g.root(5, true);
        g.op(5, ANY, 0, 0);
        g.op(5, ANY, 0, 9);
        g.op(5, ANY, 0, 1);
        dueCallees("all but BARE and START", g, 5, 0, 1, 2, 3);
        dueCallees("none has it", g, 5, 1);
        dueCallees("itself", g, 5, 2, 5);
        dueBegun("ANY begins nothing", g, 0, 0, 0, 0);
        check.due("and has no FAULTS", g.count(8), 0);
        CallGraphs wide = new CallGraphs();
        for (int t = 0; t < 16; t++) {
            wide.type(FACE, NONE);
            wide.member(t, 9, t % 2 == 0 ? PLAIN : PRIVATE);
        }
        wide.root(15, true);
        wide.op(15, ANY, 0, 9);
        for (int m = 0; m < 16; m++) check.due("of sixteen types: " + m, wide.callee(15, 0, m), m);
        check.due("no 17th", wide.callee(15, 0, 16), NONE);
    }

    private static void calleesAreReached() {
        check.sentence(0, "CALLEES are REACHED");
        CallGraphs g = types(CLASS, CLASS, CLASS, CLASS, CLASS);
        for (int m = 0; m < 48; m++) g.member(m / 10, m % 10, SHARED);
        for (int m = 0; m < 47; m++) g.op(m + 1, STATIC, m / 10, m % 10);
        g.root(20, true);
        check.due("a row from 20 down", g.count(4), 21);
        check.due("its last", g.about(0, 0), 1);
        check.due("one before its first", g.about(21, 0), 0);
        g.root(47, true);
        check.due("the longest row", g.count(4), 48);
    }

    private static void begunWithAClass() {
        check.sentence(0, "With a class its SUPER is BEGUN");
        for (int last = 0; last < 16; last++) {
            CallGraphs g = new CallGraphs();
            for (int t = 0; t < 16; t++) g.type(t == 7 && last != 7 ? ABSTRACT : CLASS, t - 1);
            g.member(6, 0, SHARED);
            g.root(0, true);
            g.op(0, NEW, last, 0);
            int[] begun = new int[16];
            for (int t = 0; t <= last; t++) begun[t] = 1;
            dueBegun("a row up from " + last, g, begun);
            check.due("but one is MADE", g.count(5), 1);
        }
        CallGraphs apart = types(CLASS, CLASS);
        apart.type(CLASS, 0);
        apart.member(2, 0, SHARED);
        apart.root(0, true);
        apart.op(0, STATIC, 2, 0);
        dueBegun("by STATIC", apart, 1, 0, 1);
    }

    /** Faces 0 .. 5, each with a member of its number as its sort, 5 without any; class 6 has 0, 1, 2, class 7 of it 3, 4, 5. */
    private static CallGraphs sixFaces() {
        CallGraphs g = types(FACE, FACE, FACE, FACE, FACE, FACE, CLASS);
        g.type(CLASS, 6);
        for (int f = 0; f < 6; f++) g.face(f < 3 ? 6 : 7, f);
        for (int f = 0; f < 5; f++) g.member(f, 0, f);
        g.member(6, 9, SHARED);
        g.root(5, true);
        return g;
    }

    private static void facesBegunWithAClass() {
        check.sentence(0, "and each face ABOVE it that has a PLAIN member");
        CallGraphs g = sixFaces();
        g.op(5, NEW, 7, 0);
        dueBegun("PLAIN alone counts", g, 1, 0, 0, 0, 0, 0, 1, 1);
        g.member(5, 3, PLAIN);
        dueBegun("one that came late", g, 1, 0, 0, 0, 0, 1, 1, 1);
        g.member(1, 3, PLAIN);
        dueBegun("one beside a BARE one", g, 1, 1, 0, 0, 0, 1, 1, 1);
        CallGraphs deep = types(FACE, FACE, FACE, CLASS);
        deep.type(CLASS, 3);
        deep.face(1, 0);
        deep.face(2, 1);
        deep.face(3, 2);
        deep.member(0, 0, PLAIN);
        deep.member(1, 1, BARE);
        deep.member(4, 9, SHARED);
        deep.root(2, true);
        deep.op(2, NEW, 4, 0);
        dueBegun("ABOVE two faces that have none", deep, 1, 0, 0, 1, 1);
        CallGraphs apart = types(FACE, CLASS);
        apart.member(0, 0, PLAIN);
        apart.member(1, 0, SHARED);
        apart.root(1, true);
        apart.op(1, NEW, 1, 0);
        dueBegun("a face that is not ABOVE", apart, 0, 1);
    }

    private static void nothingIsBegunWithAFace() {
        check.sentence(0, "With a class (with a face nothing is BEGUN)");
        CallGraphs g = types(FACE, FACE, CLASS);
        g.face(1, 0);
        g.face(2, 1);
        g.member(0, 0, PLAIN);
        g.member(1, 1, SHARED);
        g.member(0, 0, START);
        g.member(1, 0, START);
        g.root(1, true);
        g.op(1, STATIC, 1, 1);
        dueBegun("by STATIC of a face", g, 0, 1, 0);
        dueCallees("its START alone", g, 1, 0, 1, 3);
        g.member(1, 2, PLAIN);
        dueBegun("though it has a PLAIN member itself", g, 0, 1, 0);
        g.op(1, NEW, 2, 0);
        dueBegun("with a class both are", g, 1, 1, 1);
    }

    private static void startsAreReached() {
        check.sentence(0, "The START of a BEGUN type is REACHED");
        CallGraphs g = sixFaces();
        for (int t = 0; t < 8; t++) g.member(t, 0, START);
        int[] starts = {6, 7, 8, 9, 4, 10, 11, 12};
        for (int t = 0; t < 8; t++) check.due("none is BEGUN: START of " + t, g.about(starts[t], 0), 0);
        g.op(5, NEW, 7, 0);
        int[] begun = {1, 0, 0, 0, 0, 0, 1, 1};
        for (int t = 0; t < 8; t++) check.due("START of " + t, g.about(starts[t], 0), begun[t]);
        g.op(starts[0], STATIC, 6, 9);
        dueCallees("what a START calls", g, starts[0], 0, 5, 6, 11);
        check.due("which is RECURSIVE by that", g.about(starts[0], 1), 1);
        CallGraphs without = shared(1);
        without.root(0, true);
        without.op(0, NEW, 0, 0);
        dueCallees("a type without a START", without, 0, 0);
    }

    private static void startsAreCallees() {
        check.sentence(0, "it is a CALLEE of each OP by which the type, or one with which it is BEGUN, is BEGUN (NEW, STATIC)");
        CallGraphs g = types(FACE, CLASS);
        g.type(CLASS, 1);
        g.face(2, 0);
        for (int t = 0; t < 3; t++) g.member(t, 0, START);
        g.member(0, 0, PLAIN);
        g.member(1, 1, SHARED);
        g.member(2, 2, PLAIN);
        g.root(4, true);
        g.op(4, NEW, 2, 0);
        g.op(4, NEW, 2, 0);
        g.op(4, NEW, 1, 0);
        g.op(4, STATIC, 2, 1);
        g.op(4, CALL, 2, 2);
        g.op(4, CALL, 0, 0);
        g.op(4, ANY, 0, 2);
        g.op(4, PUT, 0, 5);
        g.op(4, OUT, 0, 0);
        g.op(5, UP, 1, 1);
        g.op(5, UP, 0, 0);
        dueCallees("NEW 2: all three", g, 4, 0, 0, 1, 2);
        dueCallees("NEW 2 again: all three", g, 4, 1, 0, 1, 2);
        dueCallees("NEW 1: its own", g, 4, 2, 1);
        dueCallees("STATIC: that of the type that has the member, and the member", g, 4, 3, 1, 4);
        dueCallees("CALL: none", g, 4, 4, 5);
        dueCallees("CALL of a face: none", g, 4, 5, 3);
        dueCallees("ANY: none", g, 4, 6, 5);
        dueCallees("PUT: none", g, 4, 7);
        dueCallees("OUT: none", g, 4, 8, 5);
        dueCallees("UP: none, and STATIC is UNLIKE", g, 5, 0);
        dueCallees("UP to a face: none", g, 5, 1, 3);
    }

    private static void changesAreSeen() {
        check.sentence(0, "THE GRAPH holds (as things stand, behind each change)");
        CallGraphs g = family();
        g.op(3, CALL, 0, 0);
        g.op(3, NEW, 2, 0);
        dueReached("before", g, 1, 0, 0, 1);
        g.member(2, 0, PLAIN);
        dueReached("a member came", g, 0, 0, 0, 1, 1);
        g.op(3, NEW, 1, 0);
        dueReached("an OP came", g, 0, 1, 0, 1, 1);
        g.root(3, false);
        dueReached("a ROOT went", g, 0, 0, 0, 0, 0);
        check.due("none is MADE", g.count(5), 0);
        check.due("none is BEGUN", g.count(6), 0);
        check.due("no pairs", g.count(7), 0);
        g.root(3, true);
        dueReached("a ROOT came", g, 0, 1, 0, 1, 1);
        CallGraphs late = types(FACE, CLASS);
        late.member(0, 0, PLAIN);
        late.member(1, 1, SHARED);
        late.root(1, true);
        late.op(1, NEW, 1, 0);
        late.op(1, CALL, 0, 0);
        dueReached("no face yet", late, 0, 1);
        dueBegun("no face yet", late, 0, 1);
        late.face(1, 0);
        dueReached("a face came", late, 1, 1);
        dueBegun("a face came", late, 1, 1);
        late.type(CLASS, 1);
        dueReached("a type came", late, 1, 1);
        check.due("it is not MADE", late.made(2, 0), 0);
    }

    private static void countsOfTold() {
        check.sentence(7, "How many: what = 0 types, 1 members, 2 OPS, 3 ROOTS");
        CallGraphs g = new CallGraphs();
        for (int what = 0; what < 4; what++) check.due("new: count(" + what + ")", g.count(what), 0);
        for (int t = 0; t < 4; t++) g.type(t % 3, NONE);
        for (int m = 0; m < 3; m++) g.member(0, m, PLAIN);
        for (int o = 0; o < 5; o++) g.op(o % 2, OUT, 0, 0);
        g.root(0, true);
        g.root(2, true);
        int[] due = {4, 3, 5, 2};
        for (int what = 0; what < 4; what++) check.due("count(" + what + ")", g.count(what), due[what]);
        g.root(0, false);
        check.due("count(3), one less", g.count(3), 1);
    }

    private static void countsOfTheGraph() {
        check.sentence(7, "4 REACHED members, 5 MADE classes, 6 BEGUN types, 8 FAULTS, 9 RECURSIVE members (that are REACHED)");
        CallGraphs g = shared(7);
        g.type(CLASS, 0);
        g.type(CLASS, 0);
        g.op(0, STATIC, 0, 1);
        g.op(1, STATIC, 0, 0);
        g.op(1, STATIC, 0, 2);
        g.op(1, NEW, 1, 0);
        g.op(2, CALL, 0, 9);
        g.op(2, STATIC, 0, 8);
        g.op(3, STATIC, 0, 3);
        g.op(3, STATIC, 0, 9);
        g.op(3, NEW, 2, 0);
        int[] none = {0, 0, 0, 0, 0, 0};
        int[] some = {3, 1, 2, 3, 2, 2};
        int[] more = {4, 2, 3, 4, 3, 3};
        dueCounts("without ROOTS", g, none);
        g.root(0, true);
        dueCounts("from 0", g, some);
        g.root(3, true);
        dueCounts("from 0 and 3", g, more);
    }

    private static void dueCounts(String of, CallGraphs g, int[] due) {
        for (int i = 0; i < due.length; i++) check.due(of + ": count(" + (4 + i) + ")", g.count(4 + i), due[i]);
    }

    private static void countOfPairs() {
        check.sentence(7, "7 pairs of OPS and CALLEES");
        CallGraphs g = shared(4);
        g.root(0, true);
        g.op(0, OUT, 0, 0);
        check.due("an OP without", g.count(7), 0);
        g.op(0, STATIC, 0, 1);
        check.due("one", g.count(7), 1);
        g.op(0, STATIC, 0, 1);
        check.due("another OP, the same CALLEE", g.count(7), 2);
        g.op(0, PUT, 0, 2);
        g.op(1, PUT, 0, 1);
        check.due("one OP, two CALLEES", g.count(7), 4);
        g.op(3, STATIC, 0, 1);
        check.due("of one that is not REACHED", g.count(7), 4);
        g.member(0, 0, START);
        check.due("a START with each STATIC", g.count(7), 6);
    }

    private static void countsAtTheirMost() {
        check.sentence(7, "How many (as many as there can be)");
        CallGraphs g = new CallGraphs();
        for (int t = 0; t < 16; t++) g.type(CLASS, t - 1);
        for (int m = 0; m < 48; m++) g.member(m / 3, m % 3, SHARED);
        for (int m = 0; m < 48; m++) g.op(m, ANY, 0, 0);
        for (int m = 0; m < 48; m++) g.op(m, ANY, 0, m % 3);
        for (int m = 0; m < 48; m++) g.op(m, CALL, 0, 9);
        for (int t = 0; t < 16; t++) g.op(47, NEW, t, 0);
        for (int m = 0; m < 48; m++) g.root(m, true);
        int[] due = {16, 48, 160, 48, 48, 16, 16, 2 * 48 * 16, 48, 48};
        for (int what = 0; what < 10; what++) check.due("count(" + what + ")", g.count(what), due[what]);
    }

    private static void countOutside() {
        check.sentence(7, "OUTSIDE");
        CallGraphs g = shared(1);
        int[] wrong = {-1, 10, LEAST, GREATEST};
        for (int what : wrong) check.due("count(" + what + ")", g.count(what), OUTSIDE);
        check.due("count(0)", g.count(0), 1);
        check.due("count(9)", g.count(9), 0);
    }

    private static void madeOfAType() {
        check.sentence(12, "Of a type: what = 0 whether it is MADE, 1 whether it is BEGUN");
        CallGraphs g = types(FACE, CLASS);
        g.type(CLASS, 1);
        g.member(1, 0, SHARED);
        g.op(0, NEW, 2, 0);
        for (int t = 0; t < 3; t++) {
            check.due("before: made(" + t + ", 0)", g.made(t, 0), 0);
            check.due("before: made(" + t + ", 1)", g.made(t, 1), 0);
        }
        g.root(0, true);
        int[][] due = {{0, 0}, {0, 1}, {1, 1}};
        for (int t = 0; t < 3; t++) {
            check.due("made(" + t + ", 0)", g.made(t, 0), due[t][0]);
            check.due("made(" + t + ", 1)", g.made(t, 1), due[t][1]);
        }
        CallGraphs last = new CallGraphs();
        for (int t = 0; t < 16; t++) last.type(CLASS, NONE);
        last.member(0, 0, SHARED);
        last.root(0, true);
        last.op(0, NEW, 15, 0);
        check.due("the last type", last.made(15, 0), 1);
        check.due("the one before", last.made(14, 0), 0);
    }

    private static void madeUnknown() {
        check.sentence(12, "UNKNOWN");
        CallGraphs g = types(FACE, CLASS);
        int[] wrong = {-1, 2, LEAST, GREATEST};
        for (int t : wrong) {
            check.due("made(" + t + ", 0)", g.made(t, 0), UNKNOWN);
            check.due("made(" + t + ", 1)", g.made(t, 1), UNKNOWN);
        }
        check.due("the last one", g.made(1, 0), 0);
    }

    private static void madeOutside() {
        check.sentence(12, "OUTSIDE");
        CallGraphs g = types(FACE, CLASS);
        int[] wrong = {-1, 2, LEAST, GREATEST};
        for (int what : wrong) check.due("made(1, " + what + ")", g.made(1, what), OUTSIDE);
    }

    private static void calleesByNumbers() {
        check.sentence(13, "The i-th CALLEE of an OP of a member, by numbers");
        CallGraphs g = shared(9);
        g.root(0, true);
        int[] put = {7, 1, 8, 0, 3};
        for (int m : put) g.op(0, PUT, 2, m);
        g.op(0, OUT, 2, 0);
        g.op(0, STATIC, 0, 5);
        dueCallees("OUT", g, 0, 5, 0, 1, 3, 7, 8);
        dueCallees("STATIC", g, 0, 6, 5);
    }

    private static void calleeNone() {
        check.sentence(13, "NONE");
        CallGraphs g = shared(2);
        g.root(0, true);
        g.op(0, STATIC, 0, 1);
        g.op(0, OUT, 0, 0);
        int[] wrong = {-1, 1, 2, 48, 64, LEAST, GREATEST};
        for (int i : wrong) check.due("of one: callee(0, 0, " + i + ")", g.callee(0, 0, i), NONE);
        check.due("of one: callee(0, 0, 0)", g.callee(0, 0, 0), 1);
        int[] all = {-1, 0, 1, LEAST, GREATEST};
        for (int i : all) check.due("of none: callee(0, 1, " + i + ")", g.callee(0, 1, i), NONE);
    }

    private static void calleeOfOneNotReached() {
        check.sentence(13, "NONE (also if the member is not REACHED)");
        CallGraphs g = shared(3);
        g.type(CLASS, 0);
        g.member(0, 5, PLAIN);
        int[][] ops = {{NEW, 0, 0}, {CALL, 0, 5}, {STATIC, 0, 2}, {ANY, 0, 5}, {PUT, 0, 2}, {OUT, 0, 0}};
        for (int[] o : ops) {
            g.op(0, o[0], o[1], o[2]);
            g.op(1, o[0], o[1], o[2]);
        }
        g.root(0, true);
        int[] due = {NONE, 3, 2, 3, NONE, 2};
        for (int op = 0; op < ops.length; op++) {
            check.due("of one that is: callee(0, " + op + ", 0)", g.callee(0, op, 0), due[op]);
            check.due("of one that is not: callee(1, " + op + ", 0)", g.callee(1, op, 0), NONE);
        }
    }

    private static void calleeUnknown() {
        check.sentence(13, "UNKNOWN (member, op)");
        CallGraphs g = shared(2);
        g.op(0, STATIC, 0, 1);
        int[] members = {-1, 2, LEAST, GREATEST};
        int[] ops = {-1, 1, 24, LEAST, GREATEST};
        for (int reached = 0; reached < 2; reached++) {
            g.root(0, reached == 1);
            for (int m : members) check.due("callee(" + m + ", 0, 0)", g.callee(m, 0, 0), UNKNOWN);
            for (int op : ops) {
                check.due("callee(0, " + op + ", 0)", g.callee(0, op, 0), UNKNOWN);
                check.due("callee(0, " + op + ", -1)", g.callee(0, op, -1), UNKNOWN);
            }
            check.due("one without OPS", g.callee(1, 0, 0), UNKNOWN);
            check.due("both are there", g.callee(0, 0, 0), reached == 1 ? 1 : NONE);
        }
    }
}
